/** Compares answers with those that are due, and ends the program with 1 if one was wrong. */
final class Check {
    private static int wrong = 0;
    private static int made = 0;
    private static int sentences = 0;
    private static int madeAtSentence = 0;
    private static String sentence = "";

    private Check() {
    }

    /** A call that may throw. */
    interface Call {
        long answer();
    }

    /** The sentence of the document that the next answers are about; the one before must have had some. */
    static void sentence(String text) {
        endSentence();
        sentence = text;
        sentences++;
        madeAtSentence = made;
    }

    private static void endSentence() {
        if (sentences > 0 && made == madeAtSentence) {
            tellWrong("no answer was asked for");
        }
    }

    private static void tellWrong(String text) {
        wrong++;
        System.out.println(sentence.isEmpty() ? text : "\"" + sentence + "\": " + text);
    }

    static void same(String what, long got, long due) {
        made++;
        if (got != due) {
            tellWrong(what + " answered " + got + ", due is " + due);
        }
    }

    static void sameDouble(String what, double got, double due) {
        made++;
        if (Double.doubleToLongBits(got) != Double.doubleToLongBits(due)) {
            tellWrong(what + " answered " + got + ", due is " + due);
        }
    }

    static void isTrue(String what, boolean holds) {
        made++;
        if (!holds) {
            tellWrong(what);
        }
    }

    /** The name of what a call throws, or its answer: one text for both. */
    static String outcome(Call call) {
        try {
            return Long.toString(call.answer());
        } catch (RuntimeException e) {
            return e.getClass().getSimpleName();
        }
    }

    static void gives(String what, Call call, long due) {
        sameText(what, outcome(call), Long.toString(due));
    }

    static void noSuch(String what, Call call) {
        sameText(what, outcome(call), "IndexOutOfBoundsException");
    }

    static void badArgument(String what, Call call) {
        sameText(what, outcome(call), "IllegalArgumentException");
    }

    static void badState(String what, Call call) {
        sameText(what, outcome(call), "IllegalStateException");
    }

    static void sameText(String what, String got, String due) {
        made++;
        if (!got.equals(due)) {
            tellWrong(what + " answered " + got + ", due is " + due);
        }
    }

    /** Appends a text to the buffer. */
    static void type(BarredRungs x, String text) {
        for (int i = 0; i < text.length(); i++) {
            x.append(text.charAt(i));
        }
    }

    /** A new object with some words. */
    static BarredRungs with(String words) {
        BarredRungs x = new BarredRungs();
        type(x, words);
        x.add();
        return x;
    }

    /** A list of 24 words: "aaaa" to "aaah", then "aaba" to "aabh", then "aaca" to "aach". */
    static BarredRungs full() {
        BarredRungs x = new BarredRungs();
        for (int part = 0; part < 3; part++) {
            for (int i = 0; i < 8; i++) {
                type(x, (i > 0 ? "," : "") + "aa" + (char) ('a' + part) + (char) ('a' + i));
            }
            same("add() of eight words", x.add(), 8);
        }
        return x;
    }

    /**
     * All that undo() restores, in a number: the digest without what it holds of the saved states.
     * The buffer is to be empty. Three calls alone, as an object is good for 512.
     */
    static long state(BarredRungs x) {
        long hash = x.digest();
        int valuesBehind = 2 + 10 * x.count(0) + 30 + x.count(0) + 5;
        long weight = 1;
        for (int i = 0; i < valuesBehind; i++) {
            weight *= 31;
        }
        return hash - weight * x.count(12);
    }

    /** The digest, put together from the other answers. */
    static long hashOf(BarredRungs x, boolean kept, String buffer) {
        long hash = 3709;
        for (int what = 0; what <= 12; what++) {
            hash = 31 * hash + x.count(what);
        }
        hash = 31 * (31 * hash + x.setting(0)) + x.setting(1);
        for (int w = 0; w < x.count(0); w++) {
            for (int what = 0; what <= 9; what++) {
                hash = 31 * hash + x.word(w, what);
            }
        }
        for (int c = 0; c < 3; c++) {
            for (int what = 0; what <= 9; what++) {
                hash = 31 * hash + x.climber(c, what);
            }
        }
        for (int w = 0; w < x.count(0); w++) {
            hash = 31 * hash + x.plain(0, w);
        }
        hash = 31 * hash + x.safest();
        hash = 31 * hash + Double.doubleToLongBits(x.linkShare());
        hash = 31 * hash + Float.floatToIntBits(x.meanLadder());
        hash = 31 * hash + (kept ? 1 : 0);
        hash = 31 * hash + buffer.length();
        for (int i = 0; i < buffer.length(); i++) {
            hash = 31 * hash + buffer.charAt(i);
        }
        return hash;
    }

    static void end(String name) {
        endSentence();
        System.out.println(name + ": " + made + " answers, " + wrong + " wrong");
        System.exit(wrong == 0 && made > 0 ? 0 : 1);
    }
}
