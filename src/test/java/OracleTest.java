/** Long runs of calls, drawn by a fixed sequence of numbers, against the Oracle. */
public final class OracleTest {
    private static final int RUNS = 700;
    /** An object is good for 512 calls; a change with its text is 60 at most, a look round is 11. */
    private static final int ENOUGH = 440;

    private static long seed;
    private static int run;
    private static int calls;
    private static BarredRungs x;
    private static Oracle o;

    /** The next number of the sequence, 0 to bound - 1. */
    private static int draw(int bound) {
        seed = seed * 6364136223846793005L + 1442695040888963407L;
        return (int) ((seed >>> 33) % bound);
    }

    private static boolean oneIn(int n) {
        return draw(n) == 0;
    }

    private static void both(String call, Check.Call mine, Check.Call due) {
        calls++;
        Check.sameText("run " + run + ": " + call, Check.outcome(mine), Check.outcome(due));
    }

    /** A number of 0 to bound - 1, seldom one outside. */
    private static int index(int bound) {
        if (bound <= 0 || oneIn(25)) {
            int[] wild = {-1, bound, bound + 1, Integer.MIN_VALUE, Integer.MAX_VALUE, -7};
            return wild[draw(wild.length)];
        }
        return draw(bound);
    }

    private static void type(String text) {
        for (int i = 0; i < text.length(); i++) {
            int code = text.charAt(i);
            both("append(" + code + ")", () -> x.append(code), () -> o.append(code));
        }
    }

    private static String someWord(int spread) {
        int base = oneIn(4) ? draw(8) : 1;
        StringBuilder text = new StringBuilder();
        for (int i = 0; i < 4; i++) {
            text.append((char) ('a' + (base + draw(spread)) % 8));
        }
        return text.toString();
    }

    private static void addWords(int spread) {
        StringBuilder text = new StringBuilder(someWord(spread));
        int more = draw(7);
        for (int i = 0; i < more; i++) {
            text.append(',').append(someWord(spread));
        }
        both("clearBuffer()", () -> x.clearBuffer(), () -> o.clearBuffer());
        type(text.toString());
        both("firstError(1)", () -> x.firstError(1), () -> o.firstError(1));
        both("add() of " + text, () -> x.add(), () -> o.add());
    }

    /** A climb that the oracle takes for possible, if there is one, as a part of a text. */
    private static String somePart() {
        if (o.b.words.isEmpty() || oneIn(3)) {
            return "t";
        }
        int c = draw(3);
        int first = draw(o.b.words.size());
        for (int i = 0; i < o.b.words.size(); i++) {
            String w = o.b.words.get((first + i) % o.b.words.size());
            if (o.reason(c, w) == 0) {
                return c + w;
            }
        }
        return oneIn(3) ? c + someWord(3) : "t";
    }

    private static void playParts() {
        StringBuilder text = new StringBuilder(somePart());
        int more = draw(8);
        for (int i = 0; i < more; i++) {
            text.append(';').append(somePart());
        }
        both("clearBuffer()", () -> x.clearBuffer(), () -> o.clearBuffer());
        type(text.toString());
        both("firstError(0)", () -> x.firstError(0), () -> o.firstError(0));
        both("play() of " + text, () -> x.play(), () -> o.play());
    }

    private static void typeAnything() {
        String signs = "abcdefghijt01239,;;,tah";
        int code = oneIn(20) ? draw(140) - 5 : signs.charAt(draw(signs.length()));
        both("append(" + code + ")", () -> x.append(code), () -> o.append(code));
        int what = index(2);
        both("firstError(" + what + ")", () -> x.firstError(what), () -> o.firstError(what));
    }

    private static void climbSomewhere() {
        int n = o.b.words.size();
        int c = index(3);
        int drawn = index(n);
        if (c >= 0 && c < 3 && n > 0 && !oneIn(4)) {
            for (int i = 0; i < n; i++) {
                int w = Math.floorMod(drawn + i, n);
                if (o.reason(c, o.b.words.get(w)) == 0) {
                    both("climb(" + c + ", " + w + ")", () -> x.climb(c, w), () -> o.climb(c, w));
                    return;
                }
            }
        }
        both("climb(" + c + ", " + drawn + ")", () -> x.climb(c, drawn), () -> o.climb(c, drawn));
    }

    private static void change(int spread) {
        int n = o.b.words.size();
        int c = index(3);
        int v = index(n);
        int w = index(n);
        switch (draw(16)) {
            case 0:
                if (n < 8 || oneIn(3)) {
                    addWords(spread);
                }
                break;
            case 1:
                int s = index(2);
                int value = index(8);
                both("set(" + s + ", " + value + ")", () -> x.set(s, value), () -> o.set(s, value));
                break;
            case 2:
                int place = index(4);
                int letter = index(8);
                both("bar(" + place + ", " + letter + ")", () -> x.bar(place, letter), () -> o.bar(place, letter));
                break;
            case 3:
            case 4:
            case 5:
                both("put(" + c + ", " + v + ", " + w + ")", () -> x.put(c, v, w), () -> o.put(c, v, w));
                break;
            case 6:
            case 7:
            case 8:
                climbSomewhere();
                break;
            case 9:
            case 10:
                both("turn()", () -> x.turn(), () -> o.turn());
                break;
            case 11:
                both("leave(" + c + ")", () -> x.leave(c), () -> o.leave(c));
                break;
            case 12:
                playParts();
                break;
            case 13:
                typeAnything();
                break;
            case 14:
                if (oneIn(2)) {
                    both("keep()", () -> x.keep(), () -> o.keep());
                } else {
                    both("goBack()", () -> x.goBack(), () -> o.goBack());
                }
                break;
            default:
                both("undo()", () -> x.undo(), () -> o.undo());
                break;
        }
    }

    private static void look() {
        int n = o.b.words.size();
        int c = index(3);
        int v = index(n);
        int w = index(n);
        int what = index(10);
        int number = index(13);
        both("word(" + v + ", " + what + ")", () -> x.word(v, what), () -> o.word(v, what));
        both("climber(" + c + ", " + what + ")", () -> x.climber(c, what), () -> o.climber(c, what));
        both("count(" + number + ")", () -> x.count(number), () -> o.count(number));
        both("setting(" + c + ")", () -> x.setting(c), () -> o.setting(c));
        both("why(" + c + ", " + w + ")", () -> x.why(c, w), () -> o.why(c, w));
        both("plain(" + v + ", " + w + ")", () -> x.plain(v, w), () -> o.plain(v, w));
        both("ifPut(" + v + ", " + w + ")", () -> x.ifPut(v, w), () -> o.ifPut(v, w));
        both("safest()", () -> x.safest(), () -> o.safest());
        both("digest()", () -> x.digest(), () -> o.digest());
        calls += 2;
        Check.sameDouble("linkShare()", x.linkShare(), o.linkShare());
        Check.sameDouble("meanLadder()", x.meanLadder(), o.meanLadder());
    }

    public static void main(String[] args) {
        for (run = 0; run < RUNS; run++) {
            seed = 1000003L * run + 17;
            calls = 0;
            x = new BarredRungs();
            o = new Oracle();
            int spread = 2 + run % 4;
            int letterStep = 1 + run % 7;
            both("set(0, ..)", () -> x.set(0, letterStep), () -> o.set(0, letterStep));
            addWords(spread);
            while (calls < ENOUGH) {
                for (int k = 0; k < 4 && calls < ENOUGH; k++) {
                    change(spread);
                }
                look();
            }
        }
        Check.end("OracleTest");
    }
}
