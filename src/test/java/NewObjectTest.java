/** Promise 1: what a new object answers. */
public final class NewObjectTest {
    public static void main(String[] args) {
        BarredRungs x = new BarredRungs();
        Check.same("NONE", BarredRungs.NONE, -1);
        for (int what = 0; what <= 12; what++) {
            Check.same("count(" + what + ") of a new object", x.count(what), 0);
        }
        int[] due = {-1, -1, -1, 0, 0, 0, 0, -1, -1, -1};
        for (int c = 0; c < 3; c++) {
            for (int what = 0; what <= 9; what++) {
                Check.same("climber(" + c + ", " + what + ") of a new object", x.climber(c, what), due[what]);
            }
        }
        Check.same("setting(0)", x.setting(0), 3);
        Check.same("setting(1)", x.setting(1), 7);
        Check.same("safest()", x.safest(), -1);
        Check.sameDouble("linkShare()", x.linkShare(), 0.0);
        Check.sameDouble("meanLadder()", x.meanLadder(), 0.0f);
        Check.same("firstError(0) of the empty buffer", x.firstError(0), 0);
        Check.same("firstError(1) of the empty buffer", x.firstError(1), 0);
        Check.noSuch("word(0, 0)", () -> x.word(0, 0));
        Check.noSuch("why(0, 0)", () -> x.why(0, 0));
        Check.noSuch("plain(0, 0)", () -> x.plain(0, 0));
        Check.badState("goBack() without a snapshot", () -> x.goBack());
        Check.badState("undo() without a state", () -> x.undo());
        Check.badArgument("add() of nothing", () -> x.add());
        Check.badArgument("play() of nothing", () -> x.play());
        Check.same("clearBuffer()", x.clearBuffer(), 0);

        BarredRungs y = new BarredRungs();
        y.turn();
        Check.same("another object's turns", x.count(6), 0);
        Check.end("NewObjectTest");
    }
}
