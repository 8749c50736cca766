/** Promises 21 to 26: plain, ifPut, safest, linkShare, meanLadder, digest. */
public final class WouldBeTest {
    private static void plainTells() {
        BarredRungs x = Check.with("aaaa,aaab,aabb,abbb,bbbb,hhhh");
        for (int w = 0; w < 5; w++) {
            Check.same("plain(0, " + w + ") whatever the bar is", x.plain(0, w), w);
            Check.same("plain(" + w + ", 0)", x.plain(w, 0), w);
        }
        Check.same("no ladder", x.plain(0, 5), -1);
        Check.same("no ladder", x.plain(5, 1), -1);
        Check.same("the same word", x.plain(5, 5), 0);
        Check.noSuch("plain(6, 0)", () -> x.plain(6, 0));
        Check.noSuch("plain(0, 6)", () -> x.plain(0, 6));
        Check.noSuch("plain(-1, 0)", () -> x.plain(-1, 0));
        Check.noSuch("plain(0, -1)", () -> x.plain(0, -1));
        Check.same("nothing saved", x.count(12), 1);
    }

    /** A chain of all 24 words: the longest ladder that there can be. */
    private static void longestLadder() {
        BarredRungs x = new BarredRungs();
        Check.type(x, "aaaa,aaab,aaac,aaad,aaae,aaaf,aaag,aaah,aabh,aach");
        x.add();
        Check.type(x, "aadh,aaeh,aafh,aagh,aahh,abhh,achh,adhh,aehh,afhh");
        x.add();
        Check.type(x, "aghh,ahhh,bhhh,chhh");
        x.add();
        x.set(1, 1);
        Check.same("24 words", x.count(0), 24);
        Check.same("23 links", x.count(1), 23);
        Check.same("plain(0, 23)", x.plain(0, 23), 23);
        Check.same("one island", x.count(2), 1);
        Check.same("one island", x.count(3), 1);
        Check.same("its words", x.word(23, 8), 24);
    }

    private static void ifPutTells() {
        BarredRungs x = Check.with("bbbb,bbbc,bbcc,aaaa,hbbb");
        Check.gives("ifPut(0, 1)", () -> x.ifPut(0, 1), 0);
        Check.gives("ifPut(0, 2)", () -> x.ifPut(0, 2), 1);
        Check.gives("no way", () -> x.ifPut(0, 3), -1);
        Check.gives("the first one is barred", () -> x.ifPut(3, 0), -1);
        x.put(0, 0, 4);
        x.climb(0, 4);
        x.put(0, 0, 2);
        x.climb(0, 1);
        Check.gives("as if it did not go, also if a climber is there that did", () -> x.ifPut(1, 2), 0);
        x.bar(3, 2);
        Check.gives("from a barred one", () -> x.ifPut(1, 2), -1);
        Check.gives("to a barred one", () -> x.ifPut(0, 1), 1);
        Check.noSuch("ifPut(5, 0)", () -> x.ifPut(5, 0));
        Check.noSuch("ifPut(0, 5)", () -> x.ifPut(0, 5));
        Check.noSuch("ifPut(5, 5): the word comes first", () -> x.ifPut(5, 5));
        Check.noSuch("ifPut(-1, 0)", () -> x.ifPut(-1, 0));
        Check.badArgument("ifPut(1, 1): before the bar", () -> x.ifPut(1, 1));
        Check.same("nothing changed", x.climber(0, 0), 1);
    }

    private static void safestTells() {
        BarredRungs x = Check.with("bbcd,bbce,bbde");
        Check.same("safest()", x.safest(), 1);
        x.bar(0, 1);
        Check.same("all are barred now: the lowest", x.safest(), 0);
        x.set(0, 4);
        Check.same("b and f alone, and all have b", x.safest(), 0);
        x.bar(0, 2);
        Check.same("c and g alone: bbde is never barred", x.safest(), 2);
        x.bar(0, 3);
        Check.same("d and h alone: bbce is never barred", x.safest(), 1);
        x.bar(0, 0);
        Check.same("a and e alone: bbcd is never barred", x.safest(), 0);
        BarredRungs y = Check.with("aaaa,hhhh,gggg,ggga");
        y.set(0, 4);
        Check.same("several are never barred: the lowest", y.safest(), 1);
        Check.same("without words", new BarredRungs().safest(), -1);
    }

    private static void linkShareTells() {
        Check.sameDouble("without words", new BarredRungs().linkShare(), 0.0);
        Check.sameDouble("with one", Check.with("aaaa").linkShare(), 0.0);
        Check.sameDouble("both linked", Check.with("aaaa,aaah").linkShare(), 1.0);
        Check.sameDouble("not linked", Check.with("aaaa,hhaa").linkShare(), 0.0);
        Check.sameDouble("two of three", Check.with("bbcd,bbce,bbde").linkShare(), 2.0 / 3);
        Check.sameDouble("two of six", Check.with("bbcd,bbce,bbde,hhhh").linkShare(), 2.0 / 6);
        BarredRungs x = Check.with("aaaa,aaah");
        x.set(1, 6);
        Check.sameDouble("too far", x.linkShare(), 0.0);
    }

    private static void meanLadderTells() {
        BarredRungs x = Check.with("bbcd,bbce,bbde,hhhh");
        x.put(0, 0, 2);
        x.climb(0, 1);
        Check.sameDouble("no ladder yet", x.meanLadder(), 0.0f);
        x.turn();
        x.climb(0, 2);
        Check.sameDouble("one ladder of two", x.meanLadder(), 2.0f);
        x.put(1, 0, 1);
        x.climb(1, 1);
        Check.sameDouble("of two and one", x.meanLadder(), 1.5f);
        x.put(2, 2, 1);
        x.climb(2, 1);
        Check.sameDouble("of two, one and one", x.meanLadder(), 4 / 3.0f);
        x.put(0, 0, 2);
        x.climb(0, 1);
        x.leave(0);
        Check.sameDouble("one that left does not count", x.meanLadder(), 4 / 3.0f);
        x.put(0, 0, 1);
        x.climb(0, 1);
        Check.sameDouble("its climbs before are not of its ladder", x.meanLadder(), 5 / 4.0f);
    }

    private static void digestTells() {
        BarredRungs x = new BarredRungs();
        Check.same("digest() of a new object", x.digest(), Check.hashOf(x, false, ""));
        Check.type(x, "bbcd,bbce,bbde,hhhh");
        Check.same("with a buffer", x.digest(), Check.hashOf(x, false, "bbcd,bbce,bbde,hhhh"));
        x.add();
        Check.same("with words", x.digest(), Check.hashOf(x, false, ""));

        BarredRungs y = Check.with("bbcd,bbce,bbde,hhhh");
        y.put(0, 0, 2);
        y.put(1, 3, 2);
        y.climb(0, 1);
        Check.same("with climbers", y.digest(), Check.hashOf(y, false, ""));
        y.keep();
        Check.same("with a snapshot", y.digest(), Check.hashOf(y, true, ""));
        y.turn();
        y.climb(0, 2);
        y.put(0, 0, 1);
        y.climb(0, 1);
        y.put(0, 0, 1);
        y.climb(0, 1);
        Check.same("with a mean of 4/3", y.digest(), Check.hashOf(y, true, ""));
        int saved = y.count(12);
        long hash = y.digest();
        Check.same("digest() changes nothing", y.digest(), hash);
        Check.same("and saves nothing", y.count(12), saved);
    }

    /** All shares that there can be up to nine words go through the bits of the digest. */
    private static void digestOfShares() {
        String[] words = {"aaaa", "aaab", "hhhh", "aabb", "hhhg", "cccc", "abbb", "hhgg", "aaac"};
        for (int n = 1; n <= words.length; n++) {
            for (int near = 1; near <= 7; near++) {
                BarredRungs x = Check.with(String.join(",", java.util.Arrays.copyOf(words, n)));
                x.set(1, near);
                Check.same("digest() with " + n + " words", x.digest(), Check.hashOf(x, false, ""));
            }
        }
    }

    public static void main(String[] args) {
        plainTells();
        longestLadder();
        ifPutTells();
        safestTells();
        linkShareTells();
        meanLadderTells();
        digestTells();
        digestOfShares();
        Check.end("WouldBeTest");
    }
}
