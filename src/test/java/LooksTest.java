/** Promises 16 to 20: word, climber, count, setting, why. */
public final class LooksTest {
    private static void wordTells() {
        BarredRungs x = Check.with("abch,hhhh,abcg,hhha,abbh,dddd");
        int[][] due = {
            {0, 1, 2, 7, 1, 2, -1, 0, 3, 0},
            {7, 7, 7, 7, 0, 1, 2, 1, 2, -2},
            {0, 1, 2, 6, 1, 1, -1, 0, 3, 0},
            {7, 7, 7, 0, 0, 1, -1, 1, 2, 3},
            {0, 1, 1, 7, 1, 1, -1, 0, 3, 0},
            {3, 3, 3, 3, 0, 0, -1, 5, 1, 4},
        };
        x.put(2, 1, 3);
        for (int w = 0; w < 6; w++) {
            for (int what = 0; what <= 9; what++) {
                if (due[w][what] != -2) {
                    Check.same("word(" + w + ", " + what + ")", x.word(w, what), due[w][what]);
                }
            }
        }
        Check.same("hhhh: 3 times 5 is 7, modulo 8", x.word(1, 9), 20);
        Check.noSuch("word(6, 0)", () -> x.word(6, 0));
        Check.noSuch("word(-1, 0)", () -> x.word(-1, 0));
        Check.noSuch("word(6, 10): the word comes first", () -> x.word(6, 10));
        Check.badArgument("word(0, 10)", () -> x.word(0, 10));
        Check.badArgument("word(0, -1)", () -> x.word(0, -1));
        Check.same("looks save nothing", x.count(12), 2);
    }

    private static void neverBarred() {
        BarredRungs x = Check.with("bbbb,aaab");
        x.set(0, 4);
        Check.same("letters a and e alone", x.word(0, 9), -1);
        x.bar(3, 5);
        Check.same("place 3 has f now, then b and f come; it is b at the place 0", x.word(0, 9), 1);
        Check.same("aaab: place 3 at the fifth turn", x.word(1, 9), 4);
        x.set(0, 1);
        x.bar(0, 2);
        Check.same("the last letter that comes: b after 7 rounds", x.word(0, 9), 28);
    }

    private static void climberTells() {
        BarredRungs x = Check.with("bbcd,bbce,bbde");
        x.put(1, 0, 2);
        int[] atFirst = {0, 0, 2, 0, 0, 0, 0, 1, 1, 1};
        int[] went = {1, 0, 2, 1, 1, 0, 0, 1, 1, 1};
        int[] atEnd = {-1, 0, 2, 0, 2, 1, 0, -1, -1, -1};
        all(x, 1, atFirst);
        x.climb(1, 1);
        all(x, 1, went);
        x.turn();
        x.climb(1, 2);
        all(x, 1, atEnd);
        int[] never = {-1, -1, -1, 0, 0, 0, 0, -1, -1, -1};
        all(x, 0, never);
        x.put(1, 1, 0);
        int[] anew = {1, 1, 0, 0, 0, 1, 0, 0, 0, 0};
        all(x, 1, anew);
        x.bar(0, 1);
        x.bar(3, 3);
        x.bar(2, 4);
        x.turn();
        int[] fallen = {-1, 1, 0, 0, 0, 1, 1, -1, -1, -1};
        all(x, 1, fallen);
        Check.noSuch("climber(3, 0)", () -> x.climber(3, 0));
        Check.noSuch("climber(-1, 0)", () -> x.climber(-1, 0));
        Check.noSuch("climber(3, 10): the climber comes first", () -> x.climber(3, 10));
        Check.badArgument("climber(0, 10)", () -> x.climber(0, 10));
        Check.badArgument("climber(0, -1)", () -> x.climber(0, -1));
    }

    private static void all(BarredRungs x, int c, int[] due) {
        for (int what = 0; what <= 9; what++) {
            Check.same("climber(" + c + ", " + what + ")", x.climber(c, what), due[what]);
        }
    }

    private static void countTells() {
        BarredRungs x = Check.with("bbcd,bbce,bbde,hhhh");
        x.set(0, 2);
        x.put(0, 0, 2);
        x.put(1, 3, 0);
        Check.type(x, "0bbce;t;0bbde;t;t");
        x.play();
        x.bar(0, 7);
        int[] due = {4, 2, 2, 2, 0, 7, 3, 1, 1, 1, 0, 2, 6};
        for (int what = 0; what <= 12; what++) {
            Check.same("count(" + what + ")", x.count(what), due[what]);
        }
        x.bar(1, 7);
        x.bar(0, 1);
        Check.same("three are barred", x.count(7), 3);
        x.bar(3, 6);
        Check.same("none is barred now", x.count(7), 0);
        x.bar(2, 7);
        Check.same("one is barred", x.count(7), 1);
        x.turn();
        Check.same("one fell", x.count(10), 1);
        Check.same("none is on a word", x.count(8), 0);
        Check.badArgument("count(13)", () -> x.count(13));
        Check.badArgument("count(-1)", () -> x.count(-1));
    }

    private static void islands() {
        BarredRungs x = Check.with("aaaa,aaac,aaae,aaag,bbbb,bbba");
        int[][] due = {{7, 2}, {2, 2}, {1, 5}};
        for (int[] pair : due) {
            x.set(1, pair[0]);
            Check.same("islands by joining", x.count(2), pair[1]);
            Check.same("islands by walking", x.count(3), pair[1]);
        }
        Check.same("aaag is alone", x.word(3, 8), 1);
        Check.same("the lowest of its island", x.word(5, 7), 4);
    }

    private static void settingTells() {
        BarredRungs x = new BarredRungs();
        x.set(0, 6);
        x.set(1, 2);
        Check.same("setting(0)", x.setting(0), 6);
        Check.same("setting(1)", x.setting(1), 2);
        Check.noSuch("setting(2)", () -> x.setting(2));
        Check.noSuch("setting(-1)", () -> x.setting(-1));
    }

    private static void whyTells() {
        BarredRungs x = Check.with("bbbb,bbbc,bbbd,hhhh");
        Check.same("1: on none", x.why(0, 1), 1);
        x.put(0, 0, 3);
        x.put(1, 1, 3);
        Check.same("0: it can", x.why(0, 2), 0);
        Check.same("3: not linked", x.why(0, 3), 3);
        Check.same("3: its own word", x.why(0, 0), 3);
        Check.same("5: another one is on it", x.why(0, 1), 5);
        x.bar(3, 2);
        Check.same("4: barred, before 5", x.why(0, 1), 4);
        x.bar(0, 7);
        Check.same("3 before 4", x.why(0, 3), 3);
        x.climb(0, 2);
        Check.same("2 before 3", x.why(0, 3), 2);
        Check.same("2: it went", x.why(0, 0), 2);
        x.leave(0);
        Check.same("1 before 2", x.why(0, 0), 1);
        Check.noSuch("why(3, 0)", () -> x.why(3, 0));
        Check.noSuch("why(-1, 0)", () -> x.why(-1, 0));
        Check.noSuch("why(0, 4)", () -> x.why(0, 4));
        Check.noSuch("why(0, -1)", () -> x.why(0, -1));
        x.set(1, 1);
        x.put(0, 0, 3);
        Check.same("too far now", x.why(0, 2), 3);
        Check.same("near enough, but another one is on it", x.why(0, 1), 5);
    }

    public static void main(String[] args) {
        wordTells();
        neverBarred();
        climberTells();
        countTells();
        islands();
        settingTells();
        whyTells();
        Check.end("LooksTest");
    }
}
