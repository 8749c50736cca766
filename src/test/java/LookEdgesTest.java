/** The sentences of promises 16 to 20 (word, climber, count, setting, why), at their edges; their refusals are in RefusalsTest. */
public final class LookEdgesTest {
    private static void wordNow() {
        Check.sentence("word, 0 to 3: its letters");
        BarredRungs full = Check.full();
        for (int w = 0; w < 24; w++) {
            int[] letters = {0, 0, w / 8, w % 8};
            for (int place = 0; place < 4; place++) {
                Check.same("word(" + w + ", " + place + ")", full.word(w, place), letters[place]);
            }
        }

        Check.sentence("word, 4: 1 if it is barred, otherwise 0");
        full.bar(3, 7);
        for (int w = 0; w < 24; w++) {
            Check.same("word(" + w + ", 4)", full.word(w, 4), w % 8 == 7 ? 1 : 0);
        }

        Check.sentence("word, 5: the words that it is linked with, how many");
        for (int near = 1; near <= 7; near++) {
            full.set(1, near);
            for (int w = 0; w < 24; w += 5) {
                int due = 0;
                for (int v = 0; v < 24; v++) {
                    int apart = Math.abs(v / 8 - w / 8) + Math.abs(v % 8 - w % 8);
                    boolean atOnePlace = (v / 8 == w / 8) != (v % 8 == w % 8);
                    due += atOnePlace && apart <= near ? 1 : 0;
                }
                Check.same("word(" + w + ", 5), " + near, full.word(w, 5), due);
            }
        }
        Check.same("the only word", Check.with("aaaa").word(0, 5), 0);

        Check.sentence("word, 6: the climber on it, NONE if there is none");
        BarredRungs x = Check.with("bbbb,bbbc,bbcc,hhhh");
        for (int c = 0; c < 3; c++) {
            Check.same("at first", x.word(c, 6), -1);
            x.put(c, c, 3);
            Check.same("after put()", x.word(c, 6), c);
        }
        Check.same("an end is not where the climber is", x.word(3, 6), -1);
        x.leave(1);
        Check.same("after leave()", x.word(1, 6), -1);
        x.climb(0, 1);
        Check.same("after climb()", x.word(1, 6), 0);
        Check.same("a beginning is not where the climber is", x.word(0, 6), -1);
        x.bar(2, 2);
        x.turn();
        Check.same("after a fall: place 3, letter c", x.word(1, 6), -1);
        Check.same("the other fell, too", x.word(2, 6), -1);
    }

    private static void wordIslands() {
        Check.sentence("word, 7: the lowest word of its island; 8: the words of its island, how many");
        BarredRungs x = Check.with("hhhh,bbbb,hhhf,bbbd,hhhd,dddd");
        int[][] lowest = {{0, 1, 2, 3, 4, 5}, {0, 1, 0, 1, 0, 5}};
        int[][] size = {{1, 1, 1, 1, 1, 1}, {3, 2, 3, 2, 3, 1}};
        for (int near = 1; near <= 2; near++) {
            x.set(1, near);
            for (int w = 0; w < 6; w++) {
                Check.same("word(" + w + ", 7), " + near, x.word(w, 7), lowest[near - 1][w]);
                Check.same("word(" + w + ", 8), " + near, x.word(w, 8), size[near - 1][w]);
            }
        }
        x.bar(0, 7);
        Check.same("whatever the bar is", x.word(4, 8), 3);
        BarredRungs full = Check.full();
        full.set(1, 1);
        Check.same("the island of all 24", full.word(23, 8), 24);
        Check.same("its lowest", full.word(23, 7), 0);
    }

    private static void wordBarred() {
        Check.sentence("word, 9: behind how many turns it is barred, 0 if it is now; NONE if it is never");
        String[] words = {"abcd", "hhhh", "bbdf", "aaac"};
        for (int step = 1; step <= 7; step++) {
            for (int bar = 0; bar < 32; bar += 3) {
                BarredRungs x = Check.with(String.join(",", words));
                x.set(0, step);
                x.bar(bar / 8, bar % 8);
                int[] told = new int[words.length];
                int[] seen = new int[words.length];
                for (int w = 0; w < words.length; w++) {
                    told[w] = x.word(w, 9);
                    seen[w] = -1;
                }
                for (int t = 0; t < 64; t++) {
                    for (int w = 0; w < words.length; w++) {
                        if (seen[w] == -1 && x.word(w, 4) == 1) {
                            seen[w] = t;
                        }
                    }
                    x.turn();
                }
                for (int w = 0; w < words.length; w++) {
                    Check.same(words[w] + " with the bar " + bar + " and the step " + step, told[w], seen[w]);
                }
            }
        }
        BarredRungs y = Check.with("hhhh");
        y.set(0, 1);
        Check.same("the greatest that there can be", y.word(0, 9), 28);
        y.set(0, 2);
        Check.same("a, c, e and g alone: never", y.word(0, 9), -1);
        y.bar(3, 7);
        Check.same("now, and never again", y.word(0, 9), 0);
        y.turn();
        Check.same("b, d, f and h: the place 0 has it after 12 turns more", y.word(0, 9), 12);
    }

    private static void climberFacts() {
        Check.sentence("climber, 0: the word that it is on; NONE if it is on none");
        BarredRungs x = Check.with("bbbb,bbbc,bbcc,hhhh");
        Check.same("never put", x.climber(0, 0), -1);
        x.put(0, 0, 2);
        Check.same("put", x.climber(0, 0), 0);
        x.climb(0, 1);
        Check.same("gone", x.climber(0, 0), 1);
        x.turn();
        x.climb(0, 2);
        Check.same("at its end", x.climber(0, 0), -1);
        x.put(0, 1, 3);
        x.leave(0);
        Check.same("left", x.climber(0, 0), -1);
        x.put(0, 1, 3);
        x.bar(2, 2);
        x.turn();
        Check.same("fallen", x.climber(0, 0), -1);

        Check.sentence("climber, 1: its beginning; 2: its end; NONE if it was never put");
        Check.same("1 of one on none", x.climber(0, 1), 1);
        Check.same("2 of one on none", x.climber(0, 2), 3);
        Check.same("1 of another one", x.climber(1, 1), -1);
        Check.same("2 of another one", x.climber(1, 2), -1);
        x.bar(0, 0);
        x.put(1, 3, 0);
        Check.same("1 of the one that was put", x.climber(1, 1), 3);
        Check.same("2, the word 0", x.climber(1, 2), 0);
        x.undo();
        Check.same("1, after undo() of the first put", x.climber(1, 1), -1);
        Check.same("2, after undo() of the first put", x.climber(1, 2), -1);

        Check.sentence("climber, 3: 1 if it went in this turn, otherwise 0 (0 if it is on none)");
        BarredRungs y = Check.with("bbbb,bbbc,bbcc,hhhh");
        Check.same("never put", y.climber(0, 3), 0);
        y.put(0, 0, 2);
        y.put(1, 3, 2);
        Check.same("put", y.climber(0, 3), 0);
        y.climb(0, 1);
        Check.same("gone", y.climber(0, 3), 1);
        Check.same("another one", y.climber(1, 3), 0);
        y.turn();
        Check.same("a turn later", y.climber(0, 3), 0);
        y.climb(0, 2);
        Check.same("at its end, in the turn in which it went", y.climber(0, 3), 0);
        y.put(0, 0, 2);
        y.climb(0, 1);
        y.leave(0);
        Check.same("left, in the turn in which it went", y.climber(0, 3), 0);
    }

    private static void climberCounts() {
        Check.sentence("climber, 4: its climbs since it was put the last time, 0 if it never was");
        BarredRungs x = Check.with("bbbb,bbbc,bbcc,hhhh");
        Check.same("never put", x.climber(0, 4), 0);
        x.put(0, 0, 2);
        Check.same("put", x.climber(0, 4), 0);
        x.climb(0, 1);
        x.turn();
        x.climb(0, 0);
        x.turn();
        x.climb(0, 1);
        x.turn();
        Check.same("after three climbs, a way back among them", x.climber(0, 4), 3);
        Check.same("another one", x.climber(1, 4), 0);
        x.bar(0, 7);
        x.climb(0, 2);
        Check.same("at its end", x.climber(0, 4), 4);
        x.put(0, 0, 1);
        Check.same("put anew", x.climber(0, 4), 0);
        x.climb(0, 1);
        Check.same("since then", x.climber(0, 4), 1);

        Check.sentence("climber, 5: ladders done so far");
        Check.same("two", x.climber(0, 5), 2);
        Check.same("another one", x.climber(2, 5), 0);
        x.put(2, 1, 0);
        x.climb(2, 0);
        Check.same("one of climber 2", x.climber(2, 5), 1);
        Check.same("still two", x.climber(0, 5), 2);
        x.put(0, 1, 0);
        x.leave(0);
        Check.same("to leave is no ladder", x.climber(0, 5), 2);

        Check.sentence("climber, 6: falls so far");
        BarredRungs y = Check.with("bbbb,bbbc,bbcc,hhhh");
        for (int falls = 1; falls <= 3; falls++) {
            y.put(1, 0, 3);
            y.bar(2, 1);
            y.turn();
            Check.same("climber 1", y.climber(1, 6), falls);
            Check.same("climber 0", y.climber(0, 6), 0);
            y.bar(2, 1);
            y.turn();
            Check.same("on none it does not fall", y.climber(1, 6), falls);
            y.bar(0, 0);
        }
        y.put(1, 0, 3);
        y.leave(1);
        Check.same("to leave is no fall", y.climber(1, 6), 3);
    }

    private static void climberWays() {
        Check.sentence("climber, 7, 8 and 9: NONE if it is on none, or if it can not come to its end");
        BarredRungs x = Check.with("bbbb,bbbc,bbcc,hhhh");
        ways("never put", x, 0, -1, -1);
        x.put(0, 0, 1);
        ways("put", x, 0, 0, 1);
        x.leave(0);
        ways("left", x, 0, -1, -1);
        x.put(0, 0, 1);
        x.climb(0, 1);
        ways("at its end", x, 0, -1, -1);
        x.put(0, 0, 3);
        ways("put where no way is", x, 0, -1, -1);
        x.leave(0);
        x.put(0, 0, 2);
        x.bar(2, 1);
        x.turn();
        ways("fallen", x, 0, -1, -1);
        BarredRungs saved = Check.with("bbbb,cbbb,cbbc");
        saved.put(0, 0, 2);
        saved.bar(3, 6);
        ways("it falls if it stays, place 0 and letter b: it goes", saved, 0, 1, 1);
        saved.climb(0, 1);
        ways("when it has gone", saved, 0, 1, 1);
        saved.bar(0, 1);
        ways("about to fall wherever it is", saved, 0, -1, -1);

        Check.sentence("climber, 7, 8 and 9: each tells it by itself, whatever was asked before");
        int[] due = {1, 1, 0};
        for (int what = 7; what <= 9; what++) {
            BarredRungs alone = Check.with("bbbb,bbbf");
            alone.put(0, 0, 1);
            Check.same("climber(0, " + what + ") before", alone.climber(0, what), what == 9 ? 1 : 0);
            alone.bar(3, 5);
            Check.same("climber(0, " + what + ") when the end is barred", alone.climber(0, what), due[what - 7]);
            alone.bar(0, 1);
            Check.same("climber(0, " + what + ") when it will fall", alone.climber(0, what), -1);
        }

        Check.sentence("climber, 9: the word to which it goes first");
        BarredRungs y = Check.with("bbbb,bbcc,bbbc,bccc");
        y.put(0, 0, 3);
        ways("by the words 2 and 1", y, 0, 2, 2);
        y.climb(0, 2);
        ways("having gone, it stays in this turn", y, 0, 2, 2);
        y.turn();
        ways("in the next turn", y, 0, 1, 1);

        Check.sentence("or its own, if it stays in this turn");
        BarredRungs z = Check.with("bbbb,bbbf");
        z.put(0, 0, 1);
        z.bar(3, 5);
        ways("its end is barred now", z, 0, 1, 0);

        Check.sentence("by a way with the fewest turns, of several the one with the lowest number");
        for (int order = 0; order < 2; order++) {
            BarredRungs v = Check.with(order == 0 ? "cccc,eccc,cgcc,egcc" : "cccc,cgcc,eccc,egcc");
            v.put(0, 0, 3);
            ways("two ways of one turn", v, 0, 1, 1);
        }
        BarredRungs u = Check.with("cccc,gccc,ccgc,cgcc,cggc");
        u.put(0, 0, 4);
        ways("the word 1 is lower, but not on a way", u, 0, 1, 2);
        for (int from = 0; from < 2; from++) {
            BarredRungs w = Check.with("bbbb,cbbb,dbbb");
            w.put(0, from, 2);
            w.bar(0, 3);
            ways("its end is barred now; to stay and to go are as good", w, 0, 1, 0);
        }
        BarredRungs s = Check.with("bbbb,bbbh,bbhh");
        s.put(0, 1, 2);
        s.bar(2, 7);
        ways("it would fall: it goes away, and comes back", s, 0, 3, 0);
        BarredRungs t = Check.with("ebbb,bbbb,bbbc");
        t.put(0, 1, 2);
        t.bar(3, 2);
        ways("to go away and come back takes longer than to wait", t, 0, 1, 1);
    }

    /** Both ways of telling the fewest turns, and the first word. */
    private static void ways(String what, BarredRungs x, int c, int turns, int first) {
        Check.same(what + ": told from its word on", x.climber(c, 7), turns);
        Check.same(what + ": told from the end backwards", x.climber(c, 8), turns);
        Check.same(what + ": the first word", x.climber(c, 9), first);
    }

    private static void counts(String what, BarredRungs x, int... due) {
        for (int i = 0; i < due.length; i++) {
            Check.same(what + ": count(" + i + ")", x.count(i), due[i]);
            Check.same(what + ": count(" + i + ") again", x.count(i), due[i]);
        }
    }

    private static void count() {
        Check.sentence("count, 0: words; 1: pairs of linked words; 2, 3: islands, told by joining and by walking");
        counts("no words", new BarredRungs(), 0, 0, 0, 0);
        counts("one word", Check.with("bbbb"), 1, 0, 1, 1);
        counts("two that are linked", Check.with("bbbb,bbbc"), 2, 1, 1, 1);
        counts("two that are not", Check.with("bbbb,bbcc"), 2, 0, 2, 2);
        counts("a ring", Check.with("bbbb,bbbc,bbcc,bbcb"), 4, 4, 1, 1);
        counts("a ring, its words crosswise", Check.with("bbbb,bbcc,bbbc,bbcb"), 4, 4, 1, 1);
        counts("a ring, its words crosswise, behind others", Check.with("hhhh,bbbb,bbcc,bbbc,bbcb"), 5, 4, 2, 2);
        counts("two rows joined by the last word", Check.with("bbbb,bbbc,bbdd,bbdc,bbcc"), 5, 5, 1, 1);
        counts("islands whose words come by turns", Check.with("hhhh,bbbb,hhhg,bbbc,dddd,hhgg"), 6, 3, 3, 3);
        BarredRungs full = Check.full();
        counts("24 words", full, 24, 3 * 28 + 8 * 3, 1, 1);
        full.set(1, 1);
        counts("24 words, near", full, 24, 3 * 7 + 8 * 2, 1, 1);
        BarredRungs apart = Check.with("aaaa,bbbb,cccc,dddd,eeee,ffff,gggg,hhhh,abcd,efgh,hgfe,dcba");
        counts("all apart", apart, 12, 0, 12, 12);
        apart.undo();
        counts("after undo()", apart, 0, 0, 0, 0);

        Check.sentence("count, 4: the place of the bar; 5: its letter; 6: turns so far; 7: words that are barred");
        BarredRungs x = Check.with("bbbb,bbbc,hhhh");
        counts("at first", x, 3, 1, 2, 2, 0, 0, 0, 0);
        x.bar(3, 1);
        counts("to put the bar is no turn", x, 3, 1, 2, 2, 3, 1, 0, 1);
        x.bar(2, 1);
        counts("two are barred", x, 3, 1, 2, 2, 2, 1, 0, 2);
        x.turn();
        counts("a turn", x, 3, 1, 2, 2, 3, 1, 1, 1);
        x.turn();
        counts("and one more", x, 3, 1, 2, 2, 0, 4, 2, 0);
        BarredRungs all = Check.full();
        Check.same("24 are barred", all.count(7), 24);

        Check.sentence("count, 8: climbers on a word; 9: ladders; 10: falls; 11: climbs so far; 12: saved states");
        BarredRungs y = Check.with("bbbb,bbbc,bbcc,hhhh");
        int[] on = {0, 1, 2, 3};
        for (int c = 0; c < 3; c++) {
            Check.same("on a word", y.count(8), on[c]);
            y.put(c, c, 3);
        }
        Check.same("on a word", y.count(8), 3);
        y.leave(1);
        Check.same("one left", y.count(8), 2);
        y.climb(0, 1);
        Check.same("a climb", y.count(11), 1);
        Check.same("saved", y.count(12), 6);
        y.bar(2, 2);
        y.turn();
        Check.same("both fell", y.count(10), 2);
        Check.same("none is on a word", y.count(8), 0);
        y.bar(0, 0);
        y.put(0, 0, 1);
        y.climb(0, 1);
        y.put(2, 0, 1);
        y.climb(2, 1);
        Check.same("ladders of both", y.count(9), 2);
        Check.same("climbs of all", y.count(11), 3);
        Check.same("saved, still", y.count(12), 6);
        Check.same("no saved state of a new object", new BarredRungs().count(12), 0);
    }

    private static void setting() {
        Check.sentence("setting: Returns its value.");
        BarredRungs x = new BarredRungs();
        Check.same("setting(0) at first", x.setting(0), 3);
        Check.same("setting(1) at first", x.setting(1), 7);
        x.set(0, 1);
        x.set(1, 2);
        Check.same("setting(0)", x.setting(0), 1);
        Check.same("setting(1)", x.setting(1), 2);
        x.undo();
        x.undo();
        Check.same("setting(0) after undo()", x.setting(0), 3);
        Check.same("setting(1) after undo()", x.setting(1), 7);
    }

    private static void why() {
        Check.sentence("why: Returns 0 if it can, otherwise 1 to 5: as climb() throws, for each climber and word");
        int[] told = new int[6];
        for (int bar = 0; bar < 32; bar++) {
            for (int went = 0; went < 2; went++) {
                for (int c = 0; c < 3; c++) {
                    for (int w = 0; w < 5; w++) {
                        BarredRungs x = Check.with("bbbb,bbbc,bbcc,bccc,bbbd");
                        x.put(0, 0, 3);
                        x.put(1, 1, 3);
                        if (went == 1) {
                            x.climb(0, 4);
                        }
                        x.bar(bar / 8, bar % 8);
                        int reason = x.why(c, w);
                        int climber = c;
                        int word = w;
                        boolean goes = !Check.outcome(() -> x.climb(climber, word)).equals("IllegalStateException");
                        Check.isTrue("climb(" + c + ", " + w + ") and why()", goes == (reason == 0));
                        told[reason]++;
                    }
                }
            }
        }
        for (int reason = 0; reason <= 5; reason++) {
            Check.isTrue("the reason " + reason + " was never told", told[reason] > 0);
        }
    }

    public static void main(String[] args) {
        wordNow();
        wordIslands();
        wordBarred();
        climberFacts();
        climberCounts();
        climberWays();
        count();
        setting();
        why();
        Check.end("LookEdgesTest");
    }
}
