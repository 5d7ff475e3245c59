/** Promises 1 to 4: a new object, status, top, bottom. */
public final class NewObjectTest {
    public static void main(String[] args) {
        newObject();
        statusIsOfTheLatestCallThatHasOne();
        fractionIsTheOneToldLatest();
        Check.finish();
    }

    private static void newObject() {
        CableDrawer x = new CableDrawer();
        Check.due("NONE", CableDrawer.NONE, -1);
        Check.due("status()", x.status(), 0);
        Check.due("top()", x.top(), 0);
        Check.due("bottom()", x.bottom(), 1);
        Check.due("fault(0)", x.fault(0), -1);
        Check.due("fault(1)", x.fault(1), -1);
        for (int what = 0; what <= 7; what++) {
            Check.due("many(" + what + ")", x.many(what), 0);
            Check.due("status", x.status(), 0);
        }
        for (int tray = 0; tray < 4; tray++) {
            Check.refused("read", x, x.read(tray, 0), 3);
        }
        Check.refused("drawer(1) of an empty tape", x, x.drawer(1), 5);
        Check.refused("live", x, x.live(0), 8);
        Check.refused("mean", x, x.mean(0, 1), 8);
        Check.refused("back", x, x.back(), 8);
        Check.refused("way", x, x.way(0), 8);
        Check.refused("order", x, x.order(0), 8);
        Check.refused("loosens", x, x.loosens(), 8);
        Check.refused("lived", x, x.lived(0), 8);
        Check.due("drawer(0)", x.drawer(0), 0);
        Check.due("status", x.status(), 0);
    }

    private static void statusIsOfTheLatestCallThatHasOne() {
        CableDrawer x = new CableDrawer();
        Check.refused("lead", x, x.lead(0, 0), 2);
        x.status();
        x.top();
        x.bottom();
        x.fault(0);
        x.fault(7);
        x.feed(0, 0, 0, 0, 0);
        Check.due("calls without a STATUS leave it", x.status(), 2);
        Check.due("easy", x.easy(), 0);
        Check.due("status", x.status(), 0);
    }

    private static void fractionIsTheOneToldLatest() {
        CableDrawer x = Check.with("lead a long 12; lead b long 12; cross a b;");
        Check.fraction("grows", x, x.grows(), 3, 4);
        Check.refused("a refused call leaves it", x, x.fresh(9, 1), 2);
        Check.refused("a refused call leaves it", x, x.mean(0, 1), 8);
        Check.due("top", x.top(), 3);
        Check.due("bottom", x.bottom(), 4);
        CableDrawer y = Check.with("lead a long 12 costs 7; lead b long 12; cross a b;");
        Check.fraction("below 0", y, y.fresh(0, 0), -7, 1);
        Check.fraction("0 is 0 by 1", y, y.fresh(1, 0), 0, 1);
    }
}
