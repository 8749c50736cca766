/** The sentences of "Terms", at their edges; those on exceptions are in RefusalsTest. */
public final class TermsTest {
    private static void words() {
        Check.sentence("A word has 4 letters, at the places 0 to 3, each of a to h, told as 0 to 7.");
        String[] all = {"abcd", "efgh", "hgfe", "dcba"};
        BarredRungs x = Check.with(String.join(",", all));
        for (int w = 0; w < all.length; w++) {
            for (int place = 0; place < 4; place++) {
                Check.same(all[w] + " at " + place, x.word(w, place), all[w].charAt(place) - 'a');
            }
        }

        Check.sentence("There are at most 24 words");
        BarredRungs full = Check.full();
        Check.same("count(0)", full.count(0), 24);
        Check.same("the last letter of the last word", full.word(23, 3), 7);
        Check.type(full, "hhhh");
        Check.same("add() of a 25th word", full.add(), 0);
        Check.noSuch("word(24, 0)", () -> full.word(24, 0));

        Check.sentence("all of them unlike");
        BarredRungs twice = Check.with("abcd,abcd,abce,abcd");
        Check.same("count(0)", twice.count(0), 2);
        Check.type(twice, "abce,abcd");
        Check.same("add() of both again", twice.add(), 0);
        Check.same("count(0)", twice.count(0), 2);

        Check.sentence("numbered from 0 in the order in which they came");
        BarredRungs y = Check.with("haaa,aaaa");
        Check.type(y, "aaaa,caaa,baaa");
        Check.same("add()", y.add(), 2);
        int[] first = {7, 0, 2, 1};
        for (int w = 0; w < first.length; w++) {
            Check.same("the first letter of " + w, y.word(w, 0), first[w]);
        }
    }

    private static void links() {
        Check.sentence("Two words are linked if they differ at just one place");
        String[] atOne = {"cbbb", "bcbb", "bbcb", "bbbc"};
        String[] atMore = {"ccbb", "cbcb", "cbbc", "bccb", "bcbc", "bbcc", "cccb", "bccc", "cccc"};
        for (String w : atOne) {
            Check.same("bbbb and " + w, Check.with("bbbb," + w).count(1), 1);
        }
        for (String w : atMore) {
            Check.same("bbbb and " + w, Check.with("bbbb," + w).count(1), 0);
        }
        BarredRungs x = Check.with("bbbb,cccc");
        x.put(0, 0, 1);
        Check.same("a word and itself", x.why(0, 0), 3);
        Check.same("a word has no link with itself", x.word(0, 5), 0);

        Check.sentence("and their letters there, as numbers, differ by setting 1 at most");
        for (int near = 1; near <= 7; near++) {
            for (int by = 1; by <= 7; by++) {
                for (int place = 0; place < 4; place++) {
                    int due = by <= near ? 1 : 0;
                    Check.same(by + " up at " + place + ", " + near, linked("aaaa", place, 'a' + by, near), due);
                    Check.same(by + " down at " + place + ", " + near, linked("hhhh", place, 'h' - by, near), due);
                }
            }
        }

        Check.sentence("An island is a word with all words that are linked with it, all linked with these, and so on.");
        BarredRungs y = Check.with("bbbb,hhhh,bbcc,bbbc,hhhg,bccc,ddhh,cccc");
        int[] size = {5, 2, 5, 5, 2, 5, 1, 5};
        int[] lowest = {0, 1, 0, 0, 1, 0, 6, 0};
        for (int w = 0; w < size.length; w++) {
            Check.same("the island of " + w, y.word(w, 8), size[w]);
            Check.same("its lowest word", y.word(w, 7), lowest[w]);
        }
    }

    /** Whether a word is linked with the one that has another letter at a place. */
    private static int linked(String word, int place, int letter, int near) {
        BarredRungs x = Check.with(word + "," + word.substring(0, place) + (char) letter + word.substring(place + 1));
        x.set(1, near);
        return x.count(1);
    }

    private static void bar() {
        Check.sentence("The bar has a place, at first 0, and a letter, at first 0.");
        Check.same("the place", new BarredRungs().count(4), 0);
        Check.same("the letter", new BarredRungs().count(5), 0);
        Check.same("aaaa is barred at first", Check.with("ahhh").word(0, 4), 1);

        Check.sentence("A word is barred if its letter at the place of the bar is the letter of the bar.");
        for (int at = 0; at < 4; at++) {
            for (int place = 0; place < 4; place++) {
                for (int letter = 0; letter < 8; letter++) {
                    BarredRungs x = Check.with("eeee".substring(0, at) + "c" + "eeee".substring(at + 1));
                    x.bar(place, letter);
                    boolean barred = letter == (place == at ? 2 : 4);
                    Check.same("c at " + at + ", bar " + place + " " + letter, x.word(0, 4), barred ? 1 : 0);
                }
            }
        }

        Check.sentence("When a turn passes, the place becomes 1 more");
        for (int place = 0; place < 3; place++) {
            BarredRungs x = barAt(place, 6, 5);
            x.turn();
            Check.same("the place after " + place, x.count(4), place + 1);
            Check.same("the letter stays", x.count(5), 6);
        }

        Check.sentence("if it is 4 then, it becomes 0, and the letter becomes setting 0 more, modulo 8");
        for (int letter = 0; letter < 8; letter++) {
            for (int step = 1; step <= 7; step++) {
                BarredRungs x = barAt(3, letter, step);
                x.turn();
                Check.same("the place after 3", x.count(4), 0);
                Check.same("the letter, " + letter + " and " + step, x.count(5), (letter + step) % 8);
                Check.type(x, "t;t;t");
                x.play();
                Check.same("the letter three turns later", x.count(5), (letter + step) % 8);
                Check.type(x, "t");
                x.play();
                Check.same("and a turn more", x.count(5), (letter + 2 * step) % 8);
            }
        }
    }

    private static BarredRungs barAt(int place, int letter, int step) {
        BarredRungs x = new BarredRungs();
        x.set(0, step);
        x.bar(place, letter);
        return x;
    }

    private static void climbers() {
        Check.sentence("There are 3 climbers, numbered from 0.");
        BarredRungs x = Check.with("bbbb,cccc,dddd,hhhh");
        for (int c = 0; c < 3; c++) {
            x.put(c, c, 3);
        }
        for (int c = 0; c < 3; c++) {
            Check.same("the word of climber " + c, x.climber(c, 0), c);
        }
        Check.noSuch("put(3, 3, 0)", () -> x.put(3, 3, 0));

        Check.sentence("A climber is on a word, or on none, as at first; it has a beginning and an end (none at first).");
        for (int c = 0; c < 3; c++) {
            BarredRungs y = Check.with("bbbb,cccc");
            for (int what = 0; what <= 2; what++) {
                Check.same("climber(" + c + ", " + what + ") at first", y.climber(c, what), -1);
            }
            y.put(c, 1, 0);
            int[] due = {1, 1, 0};
            for (int what = 0; what <= 2; what++) {
                Check.same("climber(" + c + ", " + what + ")", y.climber(c, what), due[what]);
            }
        }
    }

    /** The word 0 is linked with 1 and 2, and not with 3; each reason alone, then each before the later ones. */
    private static void reasons() {
        Check.sentence("A climber can not go to a word for the first of these reasons that is so: 1: it is on none");
        BarredRungs x = Check.with("bbbb,bbbc,bbbd,hhhh");
        refused(x, 0, 1, 1);
        x.put(0, 0, 1);
        x.climb(0, 1);
        Check.same("1 before 2: it went, to its end", x.why(0, 0), 1);
        refused(x, 0, 3, 1);
        x.bar(3, 2);
        Check.same("1 before 4", x.why(0, 1), 1);
        x.put(1, 0, 3);
        Check.same("1 before 5", x.why(0, 0), 1);

        Check.sentence("2: it went in this turn already");
        BarredRungs y = Check.with("bbbb,bbbc,bbbd,hhhh");
        y.put(0, 0, 3);
        y.put(1, 2, 3);
        y.climb(0, 1);
        refused(y, 0, 0, 2);
        Check.same("2 before 3: its own word", y.why(0, 1), 2);
        Check.same("2 before 3: not linked", y.why(0, 3), 2);
        Check.same("2 before 5", y.why(0, 2), 2);
        y.bar(3, 1);
        Check.same("2 before 4", y.why(0, 0), 2);
        Check.same("another climber went by that not", y.why(1, 1), 5);
        y.bar(0, 0);
        y.turn();
        Check.same("no more when a turn has passed", y.why(0, 0), 0);

        Check.sentence("3: the word is not linked with its own");
        BarredRungs z = Check.with("bbbb,bbbc,bbbd,hhhh");
        z.put(0, 0, 3);
        refused(z, 0, 3, 3);
        refused(z, 0, 0, 3);
        z.bar(3, 7);
        Check.same("3 before 4", z.why(0, 3), 3);
        z.bar(0, 0);
        z.put(1, 3, 0);
        Check.same("3 before 5", z.why(0, 3), 3);
        z.set(1, 1);
        refused(z, 0, 2, 3);

        Check.sentence("4: the word is barred");
        BarredRungs v = Check.with("bbbb,bbbc,bbbd,hhhh");
        v.put(0, 0, 3);
        v.bar(3, 2);
        refused(v, 0, 1, 4);
        v.bar(0, 0);
        v.put(1, 1, 3);
        v.bar(3, 2);
        refused(v, 0, 1, 4);
        v.bar(0, 1);
        Check.same("not for its own word being barred, but for the other one", v.why(0, 2), 4);
        v.bar(3, 1);
        Check.same("its own word alone is barred: it can", v.why(0, 2), 0);

        Check.sentence("5: another climber is on it");
        BarredRungs u = Check.with("bbbb,bbbc,bbbd,hhhh");
        u.put(2, 0, 1);
        u.put(0, 1, 3);
        refused(u, 2, 1, 5);
        u.leave(0);
        Check.same("when that has left", u.why(2, 1), 0);
        u.put(1, 1, 3);
        refused(u, 2, 1, 5);
        u.bar(2, 2);
        Check.same("that one falls", u.turn(), 1);
        u.bar(0, 0);
        Check.same("when that has fallen", u.why(2, 1), 0);
        Check.same("an end is open like any word", u.climb(2, 1), 1);
    }

    private static void refused(BarredRungs x, int c, int w, int due) {
        Check.same("why(" + c + ", " + w + ")", x.why(c, w), due);
        Check.badState("climb(" + c + ", " + w + ")", () -> x.climb(c, w));
    }

    private static void canGoWhenPut() {
        Check.sentence("(A climber that was put on its beginning in this turn can go, also if it went in it already, to its end.)");
        BarredRungs x = Check.with("bbbb,bbbc,bbcc");
        x.put(0, 0, 1);
        Check.same("put for the first time", x.why(0, 1), 0);
        x.climb(0, 1);
        Check.same("put after it went to its end: the fewest turns", x.put(0, 1, 2), 0);
        Check.same("it did not go", x.climber(0, 3), 0);
        Check.same("it goes at once", x.climber(0, 9), 2);
        Check.same("to its end", x.why(0, 2), 0);
        Check.same("or elsewhere", x.why(0, 0), 0);
        Check.same("climb(0, 2)", x.climb(0, 2), 1);
        x.put(0, 0, 2);
        x.climb(0, 1);
        Check.same("but having gone since, it can not", x.why(0, 2), 2);
        Check.badState("climb(0, 2), to its end", () -> x.climb(0, 2));
        x.leave(0);
        x.put(0, 0, 2);
        Check.same("put after it left", x.why(0, 1), 0);
        Check.type(x, "0bbbc");
        Check.same("play() of it", x.play(), 1);
    }

    private static void endsAndFalls() {
        Check.sentence("When a climber comes to its end, it has done a ladder: it is on no word any more.");
        BarredRungs x = Check.with("bbbb,bbbc,bbcc");
        x.put(0, 0, 1);
        Check.same("climb(0, 1)", x.climb(0, 1), 1);
        Check.same("its word", x.climber(0, 0), -1);
        Check.same("its ladders", x.climber(0, 5), 1);
        Check.same("the climber on the end", x.word(1, 6), -1);
        x.put(1, 2, 0);
        Check.same("another one can go there in the same turn", x.climb(1, 1), 0);
        x.leave(1);
        x.put(2, 1, 0);
        Check.same("another one can be put there", x.climber(2, 0), 1);
        x.turn();
        x.put(1, 0, 2);
        Check.same("coming to another one's end is no ladder, but to be on it", x.climb(2, 2), 0);
        Check.same("it is on it", x.climber(2, 0), 2);

        Check.sentence("When a turn passes, the bar moves; then each climber whose word is barred falls.");
        BarredRungs y = Check.with("bcdd,cbdd,ccbd,hhhh");
        y.put(0, 0, 3);
        y.put(1, 1, 3);
        y.put(2, 2, 3);
        y.bar(0, 1);
        Check.same("0 is barred before, 1 after the bar has moved", y.turn(), 1);
        Check.same("climber 0 is where it was", y.climber(0, 0), 0);
        Check.same("climber 1 fell", y.climber(1, 6), 1);
        Check.same("it is on no word any more", y.climber(1, 0), -1);
        Check.same("climber 2 is where it was", y.climber(2, 0), 2);
        y.bar(0, 0);
        y.put(1, 1, 3);
        y.bar(2, 3);
        Check.same("all have d at place 3", y.turn(), 3);
        Check.same("falls", y.count(10), 4);
        y.bar(2, 3);
        Check.same("nobody is there to fall", y.turn(), 0);
        Check.same("falls", y.count(10), 4);

        Check.sentence("then the bar moves on to the place 0 with another letter");
        BarredRungs z = Check.with("bbbb,ebbb");
        z.put(0, 0, 1);
        z.put(1, 1, 0);
        z.bar(3, 6);
        Check.same("place 0, letter b", z.turn(), 1);
        Check.same("climber 0 fell", z.climber(0, 0), -1);
        z.set(0, 7);
        z.bar(3, 5);
        Check.same("place 0, letter e", z.turn(), 1);
        Check.same("climber 1 fell", z.climber(1, 0), -1);
    }

    private static void fewest(String what, BarredRungs x, int c, int turns, int first) {
        Check.same(what + ": told from its word on", x.climber(c, 7), turns);
        Check.same(what + ": told from the end backwards", x.climber(c, 8), turns);
        Check.same(what + ": the first word", x.climber(c, 9), first);
    }

    private static void fewestTurns() {
        Check.sentence("the fewest turns are found as if there were no others");
        BarredRungs x = Check.with("bbbb,bbbc,bbcc");
        x.put(1, 1, 0);
        x.put(2, 2, 0);
        Check.same("put(0, 0, 2), others on all its ways", x.put(0, 0, 2), 1);
        fewest("others on all its ways", x, 0, 1, 1);
        Check.same("it can not go there now", x.why(0, 1), 5);

        Check.sentence("in each turn the climber goes to a linked word that is not barred in it");
        BarredRungs y = Check.with("bbbb,bbbc");
        y.bar(3, 2);
        Check.same("its end is barred in this turn", y.put(0, 0, 1), 1);
        fewest("its end is barred in this turn", y, 0, 1, 0);
        y.bar(0, 1);
        fewest("all is barred in this turn, and in the next by the place 1", y, 0, -1, -1);
        y.bar(1, 2);
        fewest("its end is not barred", y, 0, 0, 1);
        y.bar(2, 2);
        fewest("its end will be barred when it is there no more", y, 0, 0, 1);

        Check.sentence("or stays");
        BarredRungs z = Check.with("bbbb,bbfb,bbff");
        z.bar(2, 5);
        z.put(0, 0, 2);
        fewest("two are barred now, and the end in the next turn", z, 0, 2, 0);

        Check.sentence("then the turn passes, and the climber must not fall");
        BarredRungs v = Check.with("bbcb,bbcg,bbgg,bbcf,bbgf");
        v.put(0, 0, 2);
        fewest("by bbcg, which is not barred in the next turn", v, 0, 1, 1);
        v.set(0, 2);
        v.bar(2, 6);
        fewest("on bbcg it would fall; by bbcf and bbgf", v, 0, 2, 3);
        v.bar(1, 2);
        fewest("its own and all on its way fall: place 2, letter c", v, 0, -1, -1);

        Check.sentence("(In the turn of now it can only stay, if it went already.)");
        BarredRungs u = Check.with("bbbb,bbbc,bbcc,bccc");
        u.put(0, 0, 2);
        u.climb(0, 1);
        fewest("it went, and is next to its end", u, 0, 1, 1);
        u.bar(2, 2);
        fewest("it went, and falls by staying", u, 0, -1, -1);
        u.bar(2, 1);
        fewest("it went, and stays unharmed", u, 0, 1, 1);
        u.bar(1, 2);
        fewest("its end is barred in the next turn, then its own word: back to bbbb, and by bbbc again", u, 0, 4, 1);

        Check.sentence("The fewest turns are those that have to pass until it comes to its end.");
        BarredRungs w = Check.with("bbbb,bbbc,bbcc,bccc,cccc");
        for (int end = 1; end < 5; end++) {
            Check.same("the end " + end + " climbs away", w.ifPut(0, end), end - 1);
        }
        w.put(0, 0, 1);
        fewest("next to it: no turn has to pass", w, 0, 0, 1);
    }

    /** A way that goes on when the bar has been at all its 32 places and letters. */
    private static void longWay() {
        Check.sentence("those that have to pass: more than the bar takes to be where it was");
        BarredRungs x = Check.with("eabf,efbf,efba,efda,efdd,efcd,ehcd,ahcd,ahcc");
        Check.type(x, "ahfc,ahec,adec,ddec,ddeb,ddee,deee");
        x.add();
        x.set(0, 7);
        x.bar(1, 4);
        Check.same("ifPut(8, 0)", x.ifPut(8, 0), 38);
        Check.same("put(0, 8, 0)", x.put(0, 8, 0), 38);
        for (int turns = 38; turns >= 0; turns--) {
            Check.same("told from its word on", x.climber(0, 7), turns);
            Check.same("told from the end backwards", x.climber(0, 8), turns);
            int next = x.climber(0, 9);
            if (next != x.climber(0, 0)) {
                Check.same("the first word can be gone to", x.why(0, next), 0);
                x.climb(0, next);
                if (turns > 0) {
                    fewest("having gone", x, 0, turns, next);
                }
            }
            x.turn();
        }
        Check.same("its ladder is done", x.climber(0, 5), 1);
        Check.same("it did not fall", x.climber(0, 6), 0);
    }

    private static void settingsAndText() {
        Check.sentence("0: by how much the letter of the bar moves, 1 to 7, at first 3");
        BarredRungs x = new BarredRungs();
        Check.same("setting(0)", x.setting(0), 3);
        Check.gives("set(0, 1)", () -> x.set(0, 1), 3);
        Check.gives("set(0, 7)", () -> x.set(0, 7), 1);
        Check.badArgument("set(0, 0)", () -> x.set(0, 0));
        Check.badArgument("set(0, 8)", () -> x.set(0, 8));
        Check.type(x, "t;t;t;t");
        x.play();
        Check.same("the letter", x.count(5), 7);

        Check.sentence("1: how near letters must be, 1 to 7, at first 7");
        Check.same("setting(1)", x.setting(1), 7);
        Check.gives("set(1, 1)", () -> x.set(1, 1), 7);
        Check.gives("set(1, 7)", () -> x.set(1, 7), 1);
        Check.badArgument("set(1, 0)", () -> x.set(1, 0));
        Check.badArgument("set(1, 8)", () -> x.set(1, 8));
        Check.same("a and h are near enough at first", Check.with("aaaa,aaah").count(1), 1);

        Check.sentence("The buffer has at most 60 characters.");
        BarredRungs y = new BarredRungs();
        for (int i = 1; i <= 60; i++) {
            Check.same("append", y.append('x'), i);
        }
        Check.badState("append number 61", () -> y.append('x'));
        Check.same("clearBuffer()", y.clearBuffer(), 60);
    }

    public static void main(String[] args) {
        words();
        links();
        bar();
        climbers();
        reasons();
        canGoWhenPut();
        endsAndFalls();
        fewestTurns();
        longWay();
        settingsAndText();
        Check.end("TermsTest");
    }
}
