/** Promises 13 to 15: keep, goBack, undo. */
public final class HistoryTest {
    /** A state in which nearly everything is unlike that of a new object. */
    private static BarredRungs busy() {
        BarredRungs x = Check.with("bbcd,bbce,bbde,hhhh");
        x.set(1, 5);
        x.put(0, 0, 2);
        x.put(1, 3, 0);
        x.climb(0, 1);
        x.turn();
        return x;
    }

    private static void keepTells() {
        BarredRungs x = busy();
        int saved = x.count(12);
        Check.same("keep()", x.keep(), 1);
        Check.same("keep() is not undoable", x.count(12), saved);
        Check.type(x, "t;t;t");
        x.play();
        Check.same("keep() in place of the one that was", x.keep(), 4);
        x.turn();
        Check.gives("goBack() to the later one", () -> x.goBack(), 4);
        Check.same("turns", x.count(6), 4);
    }

    private static void goBackTells() {
        BarredRungs x = busy();
        x.keep();
        long before = Check.state(x);
        x.set(0, 6);
        x.set(1, 1);
        x.bar(3, 3);
        x.leave(1);
        Check.type(x, "aaaa");
        x.add();
        x.climb(0, 2);
        x.turn();
        Check.type(x, "abc");
        Check.gives("goBack()", () -> x.goBack(), 1);
        Check.same("the buffer stays", x.clearBuffer(), 3);
        Check.isTrue("goBack(): not all is as it was", before == Check.state(x));
        Check.same("the saved states stay, and one more", x.count(12), 6);
        Check.gives("undo() of goBack()", () -> x.undo(), 5);
        Check.same("as before goBack()", x.count(0), 5);
        Check.same("the ladder, too", x.count(9), 1);
        Check.gives("the snapshot stays", () -> x.goBack(), 1);
        Check.gives("and stays", () -> x.goBack(), 1);

        BarredRungs y = new BarredRungs();
        Check.badState("goBack() without one", () -> y.goBack());
        Check.same("nothing saved", y.count(12), 0);
        y.keep();
        Check.gives("goBack() to the beginning", () -> y.goBack(), 0);
        Check.same("undoable", y.count(12), 1);
        y.undo();
        Check.gives("undo() does not take the snapshot", () -> y.goBack(), 0);
    }

    private static void undoTells() {
        BarredRungs x = new BarredRungs();
        Check.badState("undo() of nothing", () -> x.undo());
        for (int i = 0; i < 9; i++) {
            x.turn();
            Check.same("saved states", x.count(12), Math.min(i + 1, 6));
        }
        Check.type(x, "ab");
        for (int left = 5; left >= 0; left--) {
            int due = left;
            Check.gives("undo()", () -> x.undo(), due);
            Check.same("turns, the oldest states being dropped", x.count(6), 3 + left);
        }
        Check.badState("undo() of nothing more", () -> x.undo());
        Check.same("the buffer stays", x.clearBuffer(), 2);
        Check.same("turns", x.count(6), 3);
        x.turn();
        Check.same("saved again", x.count(12), 1);
    }

    private static void undoRestores() {
        BarredRungs x = busy();
        long before = Check.state(x);
        Runnable[] changes = {
            () -> x.set(0, 1), () -> x.set(1, 1), () -> x.bar(3, 6), () -> x.climb(0, 2),
            () -> x.turn(), () -> x.leave(1), () -> x.put(2, 0, 3), () -> addOne(x), () -> playOne(x),
        };
        for (int i = 0; i < changes.length; i++) {
            changes[i].run();
            x.undo();
            Check.isTrue("undo() of change " + i + ": not all is as it was", before == Check.state(x));
        }
        float mean = x.meanLadder();
        x.climb(0, 2);
        x.undo();
        Check.sameDouble("the mean of ladders, too", x.meanLadder(), mean);
    }

    /** Other words come in the places of those that undo() took away. */
    private static void otherWords() {
        BarredRungs x = Check.with("aaaa");
        Check.type(x, "bbbb,bbbc");
        x.add();
        x.keep();
        x.undo();
        Check.type(x, "cccc,hhhh");
        x.add();
        Check.same("the later word", x.word(1, 0), 2);
        x.goBack();
        Check.same("the word of the snapshot", x.word(1, 0), 1);
        Check.same("linked as then", x.count(1), 1);
        x.undo();
        Check.same("the later word again", x.word(1, 0), 2);
        Check.same("linked as then", x.count(1), 0);
    }

    private static void undoOfFalls() {
        BarredRungs x = busy();
        x.bar(3, 7);
        x.set(0, 7);
        x.bar(3, 0);
        long before = Check.state(x);
        Check.same("climber 1 falls", x.turn(), 1);
        Check.same("its falls", x.climber(1, 6), 1);
        x.undo();
        Check.isTrue("undo() of a fall: not all is as it was", before == Check.state(x));
    }

    private static void addOne(BarredRungs x) {
        Check.type(x, "bbcc,aaaa");
        x.add();
    }

    private static void playOne(BarredRungs x) {
        Check.type(x, "0bbde;t");
        x.play();
    }

    public static void main(String[] args) {
        keepTells();
        goBackTells();
        undoTells();
        undoRestores();
        otherWords();
        undoOfFalls();
        Check.end("HistoryTest");
    }
}
