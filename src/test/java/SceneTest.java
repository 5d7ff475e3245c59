import java.util.function.Consumer;

/** Scene itself: nothing in it is as in a new object, and it sees every change that a refused call might make. */
public final class SceneTest {
    public static void main(String[] args) {
        CableDrawer x = Scene.full();
        int[] due = {5, 3, 3, 15, 8};
        for (int what = 0; what < due.length; what++) {
            Check.due("many(" + what + ")", x.many(what), due[what]);
        }
        Check.due("SECONDS", x.many(5) > 0, true);
        Check.due("PENCE", x.many(6) > 0, true);
        Check.due("OPENINGS", x.many(7) > 0, true);
        Check.due("the LEAD that is FREE", x.free(Scene.FREE), 1);
        Check.due("the LEAD that was CUT", x.comes(Scene.CUT), -1);
        Check.due("the LEAD with a CLIP", x.clip(Scene.CLIPPED), false);
        Check.due("a way", x.way(0) >= 0, true);
        Check.due("an ORDER", x.order(3) >= 0, true);
        Check.due("a live()", x.lived(0), 1);
        Check.due("a FAULT", x.fault(0), 4);
        Check.due("a FRACTION", x.top() < 0, true);
        Check.due("YEARS", x.mean(0, 1), true);
        Check.due("two MARKS", x.back(), 1);
        Check.due("a text on the tape", x.drawer(20), 1);
        Check.due("24 CROSSINGS", Scene.crossed().many(1), 24);
        Check.due("three MARKS", Scene.marked().mark(), -1);
        Check.due("900 bytes", Scene.fed().feed(0, 0, 0, 0, 0), -1);
        Check.due("no LEAD that is IN", Scene.allCut().many(3), 0);
        Check.due("the same is the same", Scene.difference(Scene.full(), Scene.full()).isEmpty(), true);
        Check.due("a new one is as a new one", Scene.difference(Scene.blank(), Scene.blank()).isEmpty(), true);
        Check.due("a new one is not as it", Scene.difference(Scene.blank(), Scene.full()).isEmpty(), false);
        sees("a number in a TRAY", y -> y.write(0, 1, 1));
        sees("a TRAY", y -> y.tray(3, 0, 0));
        sees("a longer tape", y -> y.feed(0, 0, 0, 0, 0));
        sees("an empty tape", y -> y.years(20));
        sees("a FAULT", y -> y.drawer(1));
        sees("YEARS", y -> Check.years(y, "loosen;"));
        sees("a CROSSING", y -> y.cross(1, 0, 1));
        sees("SECONDS", y -> y.pull(Scene.FREE));
        sees("a CUT", y -> y.cut(Scene.FREE));
        sees("an OPENING", y -> y.open(1));
        sees("a CLIP", y -> y.unclip(Scene.CLIPPED));
        sees("a way", y -> y.alone(1));
        sees("a FRACTION", y -> y.grows());
        sees("a MARK", y -> y.mark());
        sees("a MARK less", y -> y.back());
        sees("a life", y -> y.live(9));
        Check.finish();
    }

    private static void sees(String what, Consumer<CableDrawer> done) {
        CableDrawer x = Scene.full();
        done.accept(x);
        Check.due("sees " + what, Scene.difference(x, Scene.full()).isEmpty(), false);
    }
}
