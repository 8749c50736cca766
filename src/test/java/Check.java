/** Compares answers with those that are due, and ends the program with 1 if one was wrong. */
final class Check {
    private static int wrong = 0;
    private static int made = 0;

    private Check() {
    }

    /** A call that may throw. */
    interface Call {
        long answer();
    }

    static void same(String what, long got, long due) {
        made++;
        if (got != due) {
            wrong++;
            System.out.println(what + " answered " + got + ", due is " + due);
        }
    }

    static void sameDouble(String what, double got, double due) {
        made++;
        if (Double.doubleToLongBits(got) != Double.doubleToLongBits(due)) {
            wrong++;
            System.out.println(what + " answered " + got + ", due is " + due);
        }
    }

    static void isTrue(String what, boolean holds) {
        made++;
        if (!holds) {
            wrong++;
            System.out.println(what);
        }
    }

    /** The name of what a call throws, or its answer: one text for both. */
    static String outcome(Call call) {
        try {
            return Long.toString(call.answer());
        } catch (RuntimeException e) {
            return e.getClass().getSimpleName();
        }
    }

    static void gives(String what, Call call, long due) {
        sameText(what, outcome(call), Long.toString(due));
    }

    static void noSuch(String what, Call call) {
        sameText(what, outcome(call), "IndexOutOfBoundsException");
    }

    static void badArgument(String what, Call call) {
        sameText(what, outcome(call), "IllegalArgumentException");
    }

    static void badState(String what, Call call) {
        sameText(what, outcome(call), "IllegalStateException");
    }

    static void sameText(String what, String got, String due) {
        made++;
        if (!got.equals(due)) {
            wrong++;
            System.out.println(what + " answered " + got + ", due is " + due);
        }
    }

    /** Appends a text to the buffer. */
    static void type(BarredRungs x, String text) {
        for (int i = 0; i < text.length(); i++) {
            x.append(text.charAt(i));
        }
    }

    /** A new object with some words. */
    static BarredRungs with(String words) {
        BarredRungs x = new BarredRungs();
        type(x, words);
        x.add();
        return x;
    }

    static void end(String name) {
        System.out.println(name + ": " + made + " answers, " + wrong + " wrong");
        System.exit(wrong == 0 && made > 0 ? 0 : 1);
    }
}
