import java.util.ArrayList;
import java.util.List;

/** The sentences of promises 13 to 15 and of "Undo", at their edges; their refusals are in RefusalsTest. */
public final class HistoryEdgesTest {
    private interface Act {
        void on(BarredRungs x);
    }

    /** Climber 0 is on the word 1, climber 2 on the word 3; a ladder and a fall are done; the snapshot is a turn older. */
    private static BarredRungs busy() {
        BarredRungs x = Check.with("bbcd,bbce,bbde,hhhh");
        x.put(0, 0, 1);
        x.climb(0, 1);
        x.put(1, 0, 2);
        x.bar(0, 1);
        x.turn();
        x.bar(0, 0);
        x.put(0, 0, 2);
        x.climb(0, 1);
        x.put(2, 3, 0);
        x.keep();
        x.turn();
        return x;
    }

    private static void add(BarredRungs x, String text) {
        x.clearBuffer();
        Check.type(x, text);
        x.add();
    }

    private static void play(BarredRungs x, String text) {
        x.clearBuffer();
        Check.type(x, text);
        x.play();
    }

    private static final String[] NAMES = {"add()", "add() of none", "set(0, 5)", "set(0, 3)", "set(1, 1)", "set(1, 7)",
        "bar(3, 3)", "bar() where it is", "put(0, 1, 2)", "turn()", "leave(2)", "play()", "play() of none", "goBack()"};

    private static final Act[] ACTS = {
        x -> add(x, "aaaa,bbcc"), x -> add(x, "bbcd"), x -> x.set(0, 5), x -> x.set(0, 3), x -> x.set(1, 1),
        x -> x.set(1, 7), x -> x.bar(3, 3), x -> x.bar(x.count(4), x.count(5)), x -> x.put(0, 1, 2), x -> x.turn(),
        x -> x.leave(2), x -> play(x, "t;t;t"), x -> play(x, "1aaaa"), x -> x.goBack(),
    };

    /** One on a word, which can be put, climb and leave; and a snapshot. */
    private static BarredRungs simple() {
        BarredRungs x = Check.with("bbcd,bbce,bbde,hhhh");
        x.keep();
        x.put(2, 3, 0);
        return x;
    }

    private static void undoableCalls() {
        Check.sentence("Each method that is marked undoable and does not throw saves the state (also if it changes nothing)");
        for (int i = 0; i < ACTS.length; i++) {
            BarredRungs x = simple();
            long before = Check.state(x);
            int saved = x.count(12);
            ACTS[i].on(x);
            Check.same(NAMES[i] + ": saved states", x.count(12), saved + 1);
            Check.same(NAMES[i] + ": undo()", x.undo(), saved);
            Check.isTrue(NAMES[i] + ": not all is as before", before == Check.state(x));
        }
        BarredRungs y = simple();
        y.put(0, 0, 1);
        long before = Check.state(y);
        y.climb(0, 1);
        Check.same("climb(): saved states", y.count(12), 4);
        y.undo();
        Check.isTrue("climb(): not all is as before", before == Check.state(y));

        Check.sentence("the other methods save nothing");
        BarredRungs z = simple();
        int saved = z.count(12);
        z.append('a');
        z.clearBuffer();
        z.firstError(0);
        z.keep();
        Check.same("append(), clearBuffer(), firstError(), keep()", z.count(12), saved);
        z.word(0, 9);
        z.climber(2, 9);
        z.setting(0);
        z.why(2, 0);
        z.plain(0, 1);
        z.ifPut(0, 1);
        z.safest();
        z.linkShare();
        z.meanLadder();
        z.digest();
        Check.same("the looks", z.count(12), saved);
        z.undo();
        Check.same("undo() itself", z.count(12), saved - 1);
    }

    private static void whatIsSaved() {
        Check.sentence("all, also what is counted so far");
        BarredRungs x = Check.with("bbbb,bbbc,bbcc");
        x.put(0, 0, 1);
        x.bar(3, 7);
        long[] before = counted(x);
        play(x, "0bbbc;t;t");
        x.put(1, 0, 2);
        x.climb(1, 1);
        x.bar(0, 1);
        Check.same("a fall", x.turn(), 1);
        long[] after = counted(x);
        long[] due = {3, 1, 1, 2, 1, 0, 1, 0, 1, 1};
        for (int i = 0; i < due.length; i++) {
            Check.same("counted before, " + i, before[i], 0);
            Check.same("counted after, " + i, after[i], due[i]);
        }
        for (int left = 4; left >= 1; left--) {
            x.undo();
        }
        x.undo();
        long[] again = counted(x);
        for (int i = 0; i < due.length; i++) {
            Check.same("counted after undo(), " + i, again[i], before[i]);
        }

        Check.sentence("all: the words, too, where others came in their places");
        BarredRungs words = new BarredRungs();
        words.turn();
        add(words, "bbbb,bbbc,hhhh");
        words.keep();
        words.undo();
        add(words, "cccc,dddd,dddc,dddb");
        words.goBack();
        Check.same("words of the snapshot", words.count(0), 3);
        Check.same("its first word's first letter", words.word(0, 0), 1);
        Check.same("its last word's last letter", words.word(2, 3), 7);
        Check.same("its links", words.plain(0, 1), 1);
        words.undo();
        Check.same("words of before", words.count(0), 4);
        Check.same("the first word's first letter", words.word(0, 0), 2);
        Check.same("the third word's last letter", words.word(2, 3), 2);
        Check.same("the links", words.plain(0, 1), -1);
        Check.same("the other links", words.count(1), 3);

        Check.sentence("but the buffer");
        BarredRungs y = Check.with("bbbb,bbbc");
        y.turn();
        Check.type(y, "abc");
        y.undo();
        Check.same("firstError(1), after undo() of a call when it was empty", y.firstError(1), 3);
        Check.same("append", y.append('d'), 4);
        y.undo();
        Check.same("add() after undo() of add()", y.add(), 1);
        Check.same("a", y.word(0, 0), 0);
        Check.type(y, "t;t");
        y.play();
        y.undo();
        Check.same("undo() does not bring back what was played", y.clearBuffer(), 0);

        Check.sentence("the snapshot");
        BarredRungs z = new BarredRungs();
        z.turn();
        z.keep();
        z.undo();
        Check.same("digest() knows of the snapshot", z.digest(), Check.hashOf(z, true, ""));
        Check.gives("goBack() after undo()", () -> z.goBack(), 1);

        Check.sentence("and the saved states");
        BarredRungs v = new BarredRungs();
        v.turn();
        v.turn();
        v.keep();
        v.undo();
        v.undo();
        Check.gives("goBack()", () -> v.goBack(), 2);
        Check.same("the saved states of now, not of then", v.count(12), 1);
        Check.gives("undo()", () -> v.undo(), 0);
        Check.same("turns", v.count(6), 0);
    }

    /** Turns, ladders, falls, climbs; climber 0's and 1's; the mean. */
    private static long[] counted(BarredRungs x) {
        return new long[] {x.count(6), x.count(9), x.count(10), x.count(11), x.climber(0, 5), x.climber(1, 5),
            x.climber(0, 4), x.climber(0, 6), x.climber(1, 6), (long) x.meanLadder()};
    }

    private static void atMostSix() {
        Check.sentence("At most 6 states are saved; the oldest one is dropped first.");
        BarredRungs x = new BarredRungs();
        for (int i = 1; i <= 6; i++) {
            x.turn();
            Check.same("saved", x.count(12), i);
        }
        x.turn();
        Check.same("saved after the seventh", x.count(12), 6);
        for (int left = 5; left >= 0; left--) {
            Check.same("undo()", x.undo(), left);
            Check.same("turns", x.count(6), left + 1);
        }
        Check.badState("undo() of the first turn, which was dropped", () -> x.undo());
        Check.same("turns", x.count(6), 1);

        Check.sentence("each kind of call drops it");
        for (int i = 0; i < ACTS.length; i++) {
            BarredRungs y = simple();
            for (int t = 0; t < 4; t++) {
                y.bar(0, 0);
            }
            Check.same(NAMES[i] + ": saved before", y.count(12), 6);
            ACTS[i].on(y);
            Check.same(NAMES[i] + ": saved", y.count(12), 6);
            while (y.count(12) > 0) {
                y.undo();
            }
            Check.same(NAMES[i] + ": the oldest of the rest is behind add()", y.count(0), 4);
            Check.same(NAMES[i] + ": and before put()", y.climber(2, 0), -1);
        }
    }

    /** A call that is undoable, drawn from a few; some of these are refused. */
    private static long someCall(BarredRungs x, int drawn, int i) {
        switch (drawn) {
            case 6:
            case 7:
                return x.goBack();
            case 8:
                return x.set(i & 1, 1 + i % 7);
            case 9:
                return x.bar(i % 4, i % 8);
            case 10:
                return x.put(i % 3, i % 4, (i + 1) % 4);
            case 11:
                return x.climb(i % 3, i % 4);
            case 12:
                return x.leave(i % 3);
            case 13:
                x.clearBuffer();
                Check.type(x, "0bbce;t;t");
                return x.play();
            default:
                return x.turn();
        }
    }

    private static void longRuns() {
        Check.sentence("undo: Restores the latest saved state, and drops it. Returns how many saved states are left.");
        int undone = 0;
        for (int run = 0; run < 10; run++) {
            undone += longRun(run);
        }
        Check.isTrue("hardly anything was undone", undone > 40);
    }

    /** A pile of states beside the object, with undo(), keep() and goBack() in between; tells how many were undone. */
    private static int longRun(int run) {
        List<Long> pile = new ArrayList<>();
        BarredRungs x = new BarredRungs();
        x.keep();
        pile.add(Check.state(x));
        add(x, "bbcd,bbce,bbde,hhhh");
        x.keep();
        long kept = Check.state(x);
        long seed = 7 + run;
        int undone = 0;
        for (int i = 0; i < 32; i++) {
            seed = seed * 6364136223846793005L + 1442695040888963407L;
            int drawn = (int) (seed >>> 40) & 15;
            int number = i;
            int left = pile.size() - 1;
            long before = Check.state(x);
            if (drawn == 5) {
                x.keep();
                kept = before;
            } else if (drawn < 5 && left < 0) {
                Check.badState("undo()", () -> x.undo());
            } else if (drawn < 5) {
                Check.gives("undo()", () -> x.undo(), left);
                Check.isTrue("undo() " + i + ": not all is as then", pile.remove(left) == Check.state(x));
                undone++;
            } else if (!Check.outcome(() -> someCall(x, drawn, number)).endsWith("Exception")) {
                pile.add(before);
            }
            if (pile.size() > 6) {
                pile.remove(0);
            }
            if (drawn == 6 || drawn == 7) {
                Check.isTrue("goBack() " + i + ": not all is as then", kept == Check.state(x));
            }
            Check.same("saved", x.count(12), pile.size());
        }
        return undone;
    }

    private static void keep() {
        Check.sentence("keep: Takes a snapshot of the state, in place of the one that was. Returns how many turns passed so far.");
        BarredRungs x = new BarredRungs();
        Check.same("keep() at first", x.keep(), 0);
        x.turn();
        Check.same("keep() after a turn", x.keep(), 1);
        Check.same("keep() again", x.keep(), 1);
        x.turn();
        Check.gives("goBack() to the latest one", () -> x.goBack(), 1);
        x.undo();
        x.undo();
        x.undo();
        Check.same("turns", x.count(6), 0);
        Check.same("keep() of an earlier state", x.keep(), 0);
        x.turn();
        Check.gives("goBack() to it", () -> x.goBack(), 0);

        Check.sentence("(of all that undo() would restore): not of the buffer");
        BarredRungs y = new BarredRungs();
        Check.type(y, "abc");
        y.keep();
        y.clearBuffer();
        Check.type(y, "t");
        y.goBack();
        Check.same("the buffer is as it was before goBack()", y.firstError(0), 1);
        Check.same("its length", y.clearBuffer(), 1);

        Check.sentence("the snapshot does not change with the object");
        BarredRungs z = busy();
        z.keep();
        long then = Check.state(z);
        add(z, "aaaa,cccc");
        z.set(1, 2);
        z.set(0, 6);
        z.leave(2);
        z.climb(0, 2);
        z.put(2, 0, 1);
        z.climb(2, 1);
        play(z, "t;t;t;t;t;t;t;t;t;t;t");
        z.goBack();
        Check.isTrue("not all is as then", then == Check.state(z));
    }

    private static void goBack() {
        Check.sentence("goBack: Goes back to the snapshot, which stays. Returns how many turns passed so far then.");
        BarredRungs x = busy();
        x.keep();
        int turns = x.count(6);
        long then = Check.state(x);
        for (int i = 0; i < 4; i++) {
            play(x, "t;t;t");
            Check.gives("goBack()", () -> x.goBack(), turns);
            Check.isTrue("not all is as then", then == Check.state(x));
            x.set(0, 1 + i);
            x.bar(i, i);
        }
        Check.same("digest() knows of the snapshot", x.digest(), Check.hashOf(x, true, ""));

        Check.sentence("goBack: Undoable.");
        BarredRungs y = busy();
        long before = Check.state(y);
        y.goBack();
        Check.isTrue("goBack() changed nothing", before != Check.state(y));
        Check.same("saved, the oldest one being dropped", y.count(12), 6);
        Check.same("undo()", y.undo(), 5);
        Check.isTrue("not all is as before", before == Check.state(y));
        Check.gives("the snapshot stays then, too", () -> y.goBack(), y.count(6) - 1);

        Check.sentence("the states that were saved since stay");
        BarredRungs z = new BarredRungs();
        z.keep();
        z.turn();
        z.turn();
        z.goBack();
        int[] due = {2, 1, 0};
        for (int i = 0; i < 3; i++) {
            z.undo();
            Check.same("turns", z.count(6), due[i]);
        }
    }

    public static void main(String[] args) {
        undoableCalls();
        whatIsSaved();
        atMostSix();
        longRuns();
        keep();
        goBack();
        Check.end("HistoryEdgesTest");
    }
}
