/** Promises 5 to 8: tray, write, read, pour. */
public final class TrayTest {
    public static void main(String[] args) {
        tray();
        writeAndRead();
        pour();
        Check.finish();
    }

    private static void tray() {
        CableDrawer x = new CableDrawer();
        Check.due("tray(0, 3, 60)", x.tray(0, 3, 60), true);
        Check.due("status", x.status(), 0);
        Check.due("all 0", x.read(0, 59), 0);
        Check.refused("no such TRAY", x, x.tray(-1, 0, 1), 1);
        Check.refused("no such TRAY", x, x.tray(4, 0, 1), 1);
        Check.refused("no such sort", x, x.tray(0, -1, 1), 1);
        Check.refused("no such sort, ahead of 5", x, x.tray(0, 4, 61), 1);
        Check.refused("61 numbers", x, x.tray(0, 0, 61), 5);
        Check.refused("many numbers", x, x.tray(0, 0, Integer.MAX_VALUE), 5);
        Check.refused("below 0", x, x.tray(0, 0, -1), 6);
        Check.refused("far below 0", x, x.tray(0, 0, Integer.MIN_VALUE), 6);
        Check.due("a refused tray() leaves the old one", x.read(0, 59), 0);
        x.write(0, 0, 9);
        Check.due("laid anew", x.tray(0, 0, 1), true);
        Check.due("all 0 again", x.read(0, 0), 0);
        Check.refused("shorter now", x, x.read(0, 1), 4);
        x.tray(0, 0, 2);
        Check.due("longer again, all 0", x.read(0, 1), 0);
        Check.due("a TRAY without numbers", x.tray(3, 0, 0), true);
        Check.refused("is there, without a place", x, x.read(3, 0), 4);
    }

    private static void writeAndRead() {
        CableDrawer x = new CableDrawer();
        long v = 0x12345678fffffeb8L;
        long[] due = {-72, -328, -328, v};
        for (int sort = 0; sort <= 3; sort++) {
            x.tray(sort, sort, 2);
            Check.due("write", x.write(sort, 1, v), true);
            Check.due("status", x.status(), 0);
            Check.due("cut to sort " + sort, x.read(sort, 1), due[sort]);
            Check.due("status of a number below 0", x.status(), 0);
            Check.due("the other place", x.read(sort, 0), 0);
        }
        x.write(0, 0, 128);
        Check.due("128 in 8 bits", x.read(0, 0), -128);
        x.write(1, 0, 32768);
        Check.due("32768 in 16 bits", x.read(1, 0), -32768);
        x.write(2, 0, 1L << 31);
        Check.due("2^31 in 32 bits", x.read(2, 0), -(1L << 31));
        x.write(3, 0, -1);
        Check.due("-1", x.read(3, 0), -1);
        Check.due("status tells it from NONE", x.status(), 0);
        Check.refused("write: no such TRAY", x, x.write(4, 0, 1), 1);
        Check.refused("write: no such TRAY", x, x.write(-1, 9, 1), 1);
        Check.refused("write: no such place", x, x.write(0, 2, 1), 4);
        Check.refused("write: no such place", x, x.write(0, -1, 1), 4);
        Check.refused("read: no such TRAY", x, x.read(4, 0), 1);
        Check.refused("read: no such place", x, x.read(0, 2), 4);
        Check.refused("read: no such place", x, x.read(0, Integer.MIN_VALUE), 4);
        CableDrawer y = new CableDrawer();
        Check.refused("write: MISSING", y, y.write(0, -1, 1), 3);
        Check.refused("read: MISSING", y, y.read(2, 0), 3);
    }

    private static void row(CableDrawer x, int tray, int... want) {
        for (int i = 0; i < want.length; i++) {
            Check.due("tray " + tray + ", place " + i, x.read(tray, i), want[i]);
        }
    }

    private static void pour() {
        CableDrawer x = new CableDrawer();
        Check.refused("both MISSING", x, x.pour(0, 0, 1, 0, 0), 3);
        x.tray(0, 1, 5);
        Check.refused("the second MISSING", x, x.pour(0, 0, 1, 0, 0), 3);
        Check.refused("the first MISSING", x, x.pour(1, 0, 0, 0, 0), 3);
        x.tray(1, 1, 3);
        x.tray(2, 2, 3);
        for (int i = 0; i < 5; i++) {
            x.write(0, i, i + 1);
        }
        Check.due("to another one", x.pour(0, 1, 1, 0, 3), true);
        row(x, 1, 2, 3, 4);
        row(x, 0, 1, 2, 3, 4, 5);
        Check.due("the same, upward", x.pour(0, 0, 0, 1, 4), true);
        row(x, 0, 1, 1, 2, 3, 4);
        Check.due("the same, downward", x.pour(0, 1, 0, 0, 4), true);
        row(x, 0, 1, 2, 3, 4, 4);
        Check.due("none at all", x.pour(0, 5, 1, 3, 0), true);
        row(x, 1, 2, 3, 4);
        Check.refused("no such TRAY, ahead of all", x, x.pour(4, 0, 3, 0, -1), 1);
        Check.refused("no such TRAY to come to", x, x.pour(3, 0, -1, 0, -1), 1);
        Check.refused("MISSING ahead of 11, 6", x, x.pour(2, 0, 3, 0, -1), 3);
        Check.refused("unlike sorts ahead of 6", x, x.pour(0, 0, 2, 0, -1), 11);
        Check.refused("below 0 ahead of 4", x, x.pour(0, -1, 1, 0, -1), 6);
        Check.refused("too few from there on", x, x.pour(0, 2, 1, 0, 4), 4);
        Check.refused("too few to come to", x, x.pour(0, 0, 1, 1, 3), 4);
        Check.refused("no such place", x, x.pour(0, -1, 1, 0, 1), 4);
        Check.refused("no such place to come to", x, x.pour(0, 0, 1, -1, 1), 4);
        Check.refused("far too many", x, x.pour(0, 1, 1, 1, Integer.MAX_VALUE), 4);
        Check.refused("far away", x, x.pour(0, Integer.MAX_VALUE, 1, 0, 1), 4);
        row(x, 0, 1, 2, 3, 4, 4);
        row(x, 1, 2, 3, 4);
    }
}
