/** The sentences of promises 21 to 26 (plain to digest), at their edges; their refusals are in RefusalsTest. */
public final class WouldBeEdgesTest {
    /** 24 words in a row, each linked with the next one alone if letters must be as near as can be. */
    private static BarredRungs row() {
        BarredRungs x = Check.with("aaaa,aaab,aaac,aaad,aaae,aaaf,aaag,aaah,aabh,aach");
        Check.type(x, "aadh,aaeh,aafh,aagh,aahh,abhh,achh,adhh,aehh,afhh");
        x.add();
        Check.type(x, "aghh,ahhh,bhhh,chhh");
        x.add();
        x.set(1, 1);
        return x;
    }

    private static void plain() {
        Check.sentence("plain: Tells the fewest climbs from a word to another one");
        BarredRungs x = row();
        for (int w = 0; w < 24; w++) {
            Check.same("plain(0, " + w + ")", x.plain(0, w), w);
            Check.same("plain(23, " + w + ")", x.plain(23, w), 23 - w);
            Check.same("plain(" + w + ", 11)", x.plain(w, 11), Math.abs(w - 11));
        }
        x.set(1, 7);
        Check.same("aaaa, aaah, aahh, ahhh and chhh", x.plain(0, 23), 4);
        BarredRungs ring = Check.with("bbbb,bbbc,bbcc,bbcd,bbdd,bbdb");
        Check.same("the shorter side of a ring", ring.plain(0, 4), 2);
        Check.same("and the other way round", ring.plain(4, 0), 2);

        Check.sentence("0 for the same word; NONE if there is no ladder");
        BarredRungs y = Check.with("aaaa,hhhh,hhha");
        for (int w = 0; w < 3; w++) {
            Check.same("plain(" + w + ", " + w + ")", y.plain(w, w), 0);
        }
        Check.same("plain(0, 1)", y.plain(0, 1), -1);
        Check.same("plain(2, 0)", y.plain(2, 0), -1);
        Check.same("plain(1, 2)", y.plain(1, 2), 1);
        y.set(1, 6);
        Check.same("too far", y.plain(1, 2), -1);

        Check.sentence("by links alone, whatever the bar is");
        BarredRungs z = Check.with("bbbb,bbbc,bbcc,bccc");
        for (int bar = 0; bar < 32; bar++) {
            z.bar(bar / 8, bar % 8);
            Check.same("plain(0, 3) with the bar " + bar, z.plain(0, 3), 3);
            Check.same("plain(2, 2) with the bar " + bar, z.plain(2, 2), 0);
        }
        z.bar(0, 0);
        z.put(0, 0, 3);
        z.put(1, 1, 3);
        z.put(2, 2, 3);
        Check.same("whoever is there", z.plain(0, 3), 3);
        z.climb(2, 3);
        z.climb(1, 2);
        z.climb(0, 1);
        Check.same("whoever went", z.plain(0, 3), 3);
    }

    private static void ifPut() {
        Check.sentence("ifPut: Tells the fewest turns, as for a climber who is on the first one now, and did not go in this turn");
        BarredRungs x = Check.with("bbbb,bbbc,bbcc,bccc,hhhh");
        for (int from = 0; from < 4; from++) {
            for (int to = 0; to < 4; to++) {
                int apart = Math.abs(from - to);
                int v = from;
                int w = to;
                if (apart > 0) {
                    Check.gives("ifPut(" + from + ", " + to + ")", () -> x.ifPut(v, w), apart - 1);
                }
            }
        }
        x.put(0, 0, 3);
        x.climb(0, 1);
        x.put(1, 2, 0);
        Check.gives("from a word on which one is that went", () -> x.ifPut(1, 3), 1);
        Check.gives("that one itself, having gone", () -> x.climber(0, 7), 2);
        Check.gives("to a word on which one is", () -> x.ifPut(0, 1), 0);
        Check.gives("past one", () -> x.ifPut(0, 3), 2);

        Check.sentence("as put() tells it then");
        for (int bar = 0; bar < 32; bar++) {
            for (int from = 0; from < 5; from++) {
                for (int to = 0; to < 5; to++) {
                    BarredRungs y = Check.with("bbbb,bbbc,bbcc,bccc,hhhh");
                    y.bar(bar / 8, bar % 8);
                    int v = from;
                    int w = to;
                    if (from != to) {
                        int told = y.ifPut(v, w);
                        String put = Check.outcome(() -> y.put(0, v, w));
                        String due = put.equals("IllegalStateException") ? "-1" : put;
                        Check.sameText("ifPut(" + v + ", " + w + ")", Integer.toString(told), due);
                    }
                }
            }
        }

        Check.sentence("NONE if the first one is barred, or it can not be done");
        BarredRungs z = Check.with("bbbb,cbbb,hhhh");
        z.bar(0, 1);
        Check.gives("from a barred one", () -> z.ifPut(0, 1), -1);
        Check.gives("to a barred one, but all fall by place 1", () -> z.ifPut(1, 0), -1);
        z.bar(0, 2);
        Check.gives("to a barred one: it waits", () -> z.ifPut(0, 1), 1);
        z.bar(0, 0);
        Check.gives("no way", () -> z.ifPut(0, 2), -1);
        z.bar(3, 1);
        Check.gives("a barred one that could go at once", () -> z.ifPut(0, 1), -1);
    }

    private static void safest() {
        Check.sentence("safest: NONE without words");
        Check.same("at first", new BarredRungs().safest(), -1);
        BarredRungs none = Check.with("aaaa");
        none.undo();
        Check.same("after undo() of add()", none.safest(), -1);

        Check.sentence("Returns the word that is never barred, of several the lowest");
        BarredRungs x = Check.with("eeee,bbbb,aaaa,cccc,bcbc");
        x.set(0, 4);
        Check.same("a and e alone: 1, 3 and 4 never", x.safest(), 1);
        x.bar(0, 1);
        Check.same("b and f alone: 0, 2 and 3 never", x.safest(), 0);
        x.bar(0, 2);
        Check.same("c and g alone: 0, 1 and 2 never", x.safest(), 0);
        x.set(0, 2);
        Check.same("a, c, e and g: 1 never", x.safest(), 1);

        Check.sentence("otherwise the one with the greatest word(w, 9), of several the lowest");
        Check.same("the only one", Check.with("aaaa").safest(), 0);
        BarredRungs y = Check.with("aaaa,bbbb,hhhh,gggg,hhhh");
        y.set(0, 1);
        Check.same("hhhh, after 28 turns", y.safest(), 2);
        y.bar(0, 7);
        Check.same("gggg, after 28 turns", y.safest(), 3);
        y.set(0, 7);
        Check.same("aaaa, when it goes down from h", y.safest(), 0);
        for (int step = 1; step <= 7; step++) {
            for (int bar = 0; bar < 32; bar++) {
                BarredRungs z = Check.with("abbb,bbab,hccc,accc,hbbb,ccac");
                z.set(0, step);
                z.bar(bar / 8, bar % 8);
                Check.same("with the bar " + bar + " and the step " + step, z.safest(), barredLast(z));
            }
        }
    }

    private static int barredLast(BarredRungs x) {
        int best = -1;
        int bestTurns = -1;
        for (int w = x.count(0) - 1; w >= 0; w--) {
            int turns = x.word(w, 9) < 0 ? Integer.MAX_VALUE : x.word(w, 9);
            if (turns >= bestTurns) {
                best = w;
                bestTurns = turns;
            }
        }
        return best;
    }

    private static void linkShare() {
        Check.sentence("linkShare: Returns the pairs of linked words as a double, divided by all pairs of words");
        Check.sameDouble("one pair, linked", Check.with("bbbb,bbbc").linkShare(), 1.0);
        Check.sameDouble("one pair, not linked", Check.with("bbbb,bbcc").linkShare(), 0.0);
        Check.sameDouble("one of three", Check.with("bbbb,bbbc,hhhh").linkShare(), 1.0 / 3);
        Check.sameDouble("all of 28", Check.with("aaaa,aaab,aaac,aaad,aaae,aaaf,aaag,aaah").linkShare(), 1.0);
        Check.sameDouble("108 of 276", Check.full().linkShare(), 108.0 / 276);
        Check.sameDouble("23 of 276", row().linkShare(), 23.0 / 276);
        BarredRungs x = Check.with("bbbb,bbbc,hhhh");
        x.bar(0, 1);
        Check.sameDouble("whatever the bar is", x.linkShare(), 1.0 / 3);

        Check.sentence("0.0 with fewer than two");
        Check.sameDouble("none", new BarredRungs().linkShare(), 0.0);
        Check.sameDouble("one", Check.with("bbbb").linkShare(), 0.0);
    }

    private static void meanLadder() {
        Check.sentence("meanLadder: 0.0f without any");
        BarredRungs x = Check.with("bbbb,bbbc,bbcc");
        Check.sameDouble("at first", x.meanLadder(), 0.0f);
        x.put(0, 0, 2);
        x.climb(0, 1);
        Check.sameDouble("a climb, but no ladder", x.meanLadder(), 0.0f);

        Check.sentence("Returns the climbs of all ladders that were done so far, as a float, divided by these ladders");
        x.turn();
        x.climb(0, 2);
        Check.sameDouble("2 of one", x.meanLadder(), 2.0f);
        x.put(1, 0, 1);
        x.climb(1, 1);
        Check.sameDouble("3 of two", x.meanLadder(), 1.5f);
        x.put(1, 0, 1);
        x.climb(1, 1);
        Check.sameDouble("4 of three", x.meanLadder(), 4.0f / 3);
        x.undo();
        Check.sameDouble("one is undone", x.meanLadder(), 1.5f);
        x.leave(1);
        x.put(0, 0, 2);
        x.climb(0, 1);
        x.bar(2, 2);
        x.turn();
        Check.sameDouble("the climbs of one that fell do not count", x.meanLadder(), 1.5f);
        x.bar(0, 0);
        x.put(0, 0, 2);
        x.climb(0, 1);
        x.leave(0);
        Check.sameDouble("nor those of one that left", x.meanLadder(), 1.5f);
        x.put(0, 0, 1);
        x.climb(0, 1);
        Check.sameDouble("nor for its ladder later", x.meanLadder(), 4.0f / 3);
        for (int i = 4; i <= 10; i++) {
            x.put(2, 0, 1);
            x.climb(2, 1);
            Check.sameDouble("one and more of " + i, x.meanLadder(), (float) (i + 1) / i);
        }
        x.keep();
        x.put(2, 0, 1);
        x.climb(2, 1);
        x.goBack();
        Check.sameDouble("after goBack()", x.meanLadder(), 11.0f / 10);
    }

    private static void oneDigest(String what, BarredRungs x, boolean kept, String buffer) {
        Check.same("digest() " + what, x.digest(), Check.hashOf(x, kept, buffer));
    }

    private static void digest() {
        Check.sentence("digest: The hash starts at 3709; for each value it becomes 31 * hash + v, with overflow.");
        long hash = 3709;
        int[] none = {-1, -1, -1, 0, 0, 0, 0, -1, -1, -1};
        for (int what = 0; what <= 12; what++) {
            hash = 31 * hash;
        }
        hash = 31 * (31 * hash + 3) + 7;
        for (int i = 0; i < 30; i++) {
            hash = 31 * hash + none[i % 10];
        }
        hash = 31 * hash - 1;
        for (int i = 0; i < 5 - 1; i++) {
            hash = 31 * hash;
        }
        Check.same("digest() of a new object", new BarredRungs().digest(), hash);
        BarredRungs full = Check.full();
        full.bar(1, 7);
        full.put(0, 8, 23);
        oneDigest("with 24 words", full, false, "");

        Check.sentence("the bits of linkShare (as Double.doubleToLongBits)");
        oneDigest("with 1.0", Check.with("bbbb,bbbc"), false, "");
        oneDigest("with 0.0 of one pair", Check.with("bbbb,bbcc"), false, "");
        oneDigest("with 0.0 of one word", Check.with("bbbb"), false, "");
        oneDigest("with 23 of 276", row(), false, "");
        for (int near = 1; near <= 6; near++) {
            BarredRungs x = Check.full();
            x.set(1, near);
            oneDigest("with letters at most " + near + " apart", x, false, "");
        }

        Check.sentence("the bits of meanLadder (as Float.floatToIntBits)");
        BarredRungs y = Check.with("bbbb,bbbc");
        for (int i = 1; i <= 3; i++) {
            y.put(0, 0, 1);
            y.climb(0, 1);
            oneDigest("with 1.0f", y, false, "");
        }
        for (int climbs = 1; climbs <= 23; climbs += 11) {
            oneDigest("with the mean of " + climbs, longLadder(climbs, 0), false, "");
            oneDigest("with the mean of " + climbs + " and two of 1", longLadder(climbs, 2), false, "");
        }

        Check.sentence("1 if there is a snapshot, otherwise 0");
        BarredRungs z = new BarredRungs();
        oneDigest("without", z, false, "");
        z.keep();
        oneDigest("with one", z, true, "");
        z.goBack();
        z.undo();
        oneDigest("which stays", z, true, "");

        Check.sentence("the length of the buffer and each of its character codes");
        BarredRungs v = new BarredRungs();
        Check.type(v, "!~");
        oneDigest("with two characters", v, false, "!~");
        v.clearBuffer();
        oneDigest("with none", v, false, "");
        Check.type(v, "abc~!".repeat(12));
        oneDigest("with sixty", v, false, "abc~!".repeat(12));
    }

    /** A ladder of so many climbs, made by going to and fro, and some ladders of one climb. */
    private static BarredRungs longLadder(int climbs, int ladders) {
        BarredRungs x = Check.with("bbbb,bbbc,bbbd");
        x.put(0, 0, 2);
        for (int i = 1; i < climbs; i++) {
            x.climb(0, i % 2);
            x.bar(0, 0);
            x.turn();
        }
        x.climb(0, 2);
        for (int i = 0; i < ladders; i++) {
            x.put(1, 0, 1);
            x.climb(1, 1);
        }
        Check.sameDouble("meanLadder()", x.meanLadder(), (float) (climbs + ladders) / (1 + ladders));
        return x;
    }

    public static void main(String[] args) {
        plain();
        ifPut();
        safest();
        linkShare();
        meanLadder();
        digest();
        Check.end("WouldBeEdgesTest");
    }
}
