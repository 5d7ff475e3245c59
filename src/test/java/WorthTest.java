/** Promises 44 to 50: fresh, grows, clips, tries, nextTry, boxes, waste. */
public final class WorthTest {
    public static void main(String[] args) {
        fresh();
        grows();
        clips();
        tries();
        boxes();
        boxesNotByTheLongestFirst();
        waste();
        Check.finish();
    }

    private static void fresh() {
        CableDrawer x = Check.with("lead a long 9 costs 4; lead b long 9; cross a b knot;");
        Check.fraction("15 SECONDS at 20 a minute, less 4", x, x.fresh(0, 20), 1, 1);
        Check.fraction("at 16: even", x, x.fresh(0, 16), 0, 1);
        Check.fraction("at 15", x, x.fresh(0, 15), -1, 4);
        Check.fraction("at 0", x, x.fresh(0, 0), -4, 1);
        Check.fraction("at 999", x, x.fresh(1, 999), 999, 4);
        Check.fraction("at 7", x, x.fresh(1, 7), 7, 4);
        Check.refused("no such LEAD", x, x.fresh(2, -1), 2);
        Check.refused("no such LEAD", x, x.fresh(-1, 1), 2);
        Check.refused("below 0", x, x.fresh(0, -1), 5);
        Check.refused("1,000", x, x.fresh(0, 1000), 5);
        x.cut(1);
        Check.refused("9 ahead of 5", x, x.fresh(1, -1), 9);
        Check.due("the FRACTION stays", x.top(), 7);
        Check.fraction("FREE", x, x.fresh(0, 60), -4, 1);
        Check.refused("fresh() is no alone()", x, x.way(0), 8);
    }

    private static void grows() {
        CableDrawer x = Check.with("lead a long 13 stiff 1; lead b long 10; lead c long 30 clip;");
        Check.fraction("5 and 5 by 16", x, x.grows(), 5, 8);
        x.unclip(2);
        Check.fraction("and 15", x, x.grows(), 25, 16);
        x.clip(2);
        x.cut(0);
        Check.fraction("one alone can't be crossed", x, x.grows(), 0, 1);
        Check.fraction("without LEADS", x, new CableDrawer().grows(), 0, 1);
        CableDrawer y = Check.with("lead a long 30; lead b long 2;");
        for (int n = 0; n < 24; n++) {
            y.cross(0, 1, 0);
        }
        Check.fraction("without minding how many there are", y, y.grows(), 1, 1);
    }

    private static void clips() {
        // each OPENING 5 by 16 times 16, 5 SECONDS; CLIPS 24: the fifth is more
        CableDrawer x = Check.with("lead a long 20; lead b long 12; lead c long 30 clip;");
        Check.due("clips()", x.clips(), 5);
        Check.due("status", x.status(), 0);
        // 6 by 16 times 5 is 15 by 8; 24 by that is 12.8
        CableDrawer y = Check.with("lead a long 10; lead b long 2;");
        Check.due("clips()", y.clips(), 13);
        // 5, 2 and 1 by 16 times 5 is 2.5; 36 by that is 14.4
        CableDrawer z = Check.with("lead a long 10; lead b long 4; lead c long 2;");
        Check.due("clips()", z.clips(), 15);
        // 1 by 16 times 5, 24 SECONDS: 76.8
        CableDrawer w = Check.with("lead a long 2; lead b long 1;");
        Check.due("clips()", w.clips(), 77);
        CableDrawer v = Check.with("lead a long 30; lead b long 30; lead c long 16; lead d long 20; lead e long 24;");
        // 15, 15, 8, 10, 12: 60 by 16 times 5 is 18.75; 60 SECONDS are 3.2 of these
        Check.due("clips()", v.clips(), 4);
        // 12 by 16 times 5 is 3.75; 60 SECONDS are 16 of these, and even is not more
        CableDrawer even = Check.with("lead a long 16; lead b long 8; lead c long 1; lead d long 1; lead e long 1;");
        Check.due("clips()", even.clips(), 17);
        CableDrawer none = Check.with("lead a long 1; lead b long 1;");
        Check.refused("never", none, none.clips(), 8);
        CableDrawer one = Check.with("lead a long 30; lead b long 30;");
        one.cut(0);
        Check.refused("one alone", one, one.clips(), 8);
        CableDrawer empty = new CableDrawer();
        Check.refused("no LEADS", empty, empty.clips(), 8);
    }

    private static void tries() {
        CableDrawer x = Check.with("lead a long 9 used 2; lead b long 9; lead c long 9 used 5; lead d long 9 used 2;"
            + "look l d a c b; look m b; look n a b;");
        // c 5 times 1, a 2 times 2, d 2 times 3, b never: 15 by 9
        Check.fraction("tries(0)", x, x.tries(0), 5, 3);
        int[] due = {2, 0, 3, 1};
        for (int k = 0; k < 4; k++) {
            Check.due("nextTry(0, " + k + ")", x.nextTry(0, k), due[k]);
        }
        Check.refused("no such", x, x.nextTry(0, 4), 8);
        Check.refused("no such", x, x.nextTry(0, -1), 8);
        Check.refused("never USED", x, x.tries(1), 9);
        Check.due("can be tried all the same", x.nextTry(1, 0), 1);
        Check.fraction("tries(2)", x, x.tries(2), 1, 1);
        Check.refused("no such LOOK", x, x.tries(3), 2);
        Check.refused("no such LOOK", x, x.tries(-1), 2);
        Check.refused("no such LOOK", x, x.nextTry(3, 0), 2);
        x.cut(2);
        // a 2 times 1, d 2 times 2
        Check.fraction("without c", x, x.tries(0), 3, 2);
        Check.due("nextTry(0, 0)", x.nextTry(0, 0), 0);
        Check.refused("no such", x, x.nextTry(0, 3), 8);
        x.cut(1);
        Check.refused("no LEAD of it is IN", x, x.tries(1), 8);
        Check.refused("no LEAD of it is IN", x, x.nextTry(1, 0), 8);
    }

    private static void boxes() {
        CableDrawer x = Check.with("lead a long 9; lead b long 9 clip; lead c long 5; lead d long 4; lead e long 30;");
        Check.due("30, 9 9 5 4", x.boxes(30), 2);
        Check.due("status", x.status(), 0);
        Check.due("57 together", x.boxes(57), 1);
        Check.due("56", x.boxes(56), 2);
        Check.due("99", x.boxes(99), 1);
        Check.refused("e is longer", x, x.boxes(29), 9);
        Check.refused("0", x, x.boxes(0), 5);
        Check.refused("100", x, x.boxes(100), 5);
        Check.refused("below 0", x, x.boxes(-1), 5);
        x.cut(4);
        Check.due("9, 9, 5 4", x.boxes(9), 3);
        Check.refused("8", x, x.boxes(8), 9);
        Check.due("without LEADS", new CableDrawer().boxes(1), 0);
        CableDrawer first = Check.with("lead a long 9; lead b long 5;");
        Check.refused("the first is longer", first, first.boxes(8), 9);
    }

    private static void boxesNotByTheLongestFirst() {
        // the longest first into the first box that has room: 6 2 and 5 3 2 and 2; but 6 2 2 and 5 3 2 are enough
        CableDrawer x = Check.with("lead a long 3; lead b long 6; lead c long 2; lead d long 5; lead e long 2; lead f long 2;");
        Check.due("6 2 2, 5 3 2", x.boxes(10), 2);
        CableDrawer y = Check.with("lead a long 4; lead b long 4; lead c long 3; lead d long 3; lead e long 3; lead f long 3;");
        // 4 4 leaves 2: 3 3 3 and 3; 4 3 3, 4 3 3 are enough
        Check.due("4 3 3, 4 3 3", y.boxes(10), 2);
        CableDrawer z = Check.with("lead a long 6; lead b long 6; lead c long 6; lead d long 6; lead e long 6; lead f long 6;"
            + "lead g long 6; lead h long 6;");
        Check.due("one each", z.boxes(11), 8);
        Check.due("two each", z.boxes(12), 4);
    }

    private static void waste() {
        CableDrawer x = Check.with("lead a long 9 costs 10 used 8; lead b long 9 costs 999 used 16; lead c long 9 costs 1 used 1;"
            + "lead d long 9; cross a b; cross a c; cross b c; cross a c;");
        // a is worth 5 and has 3, b 999 and 2, c a sixteenth and 3, d nothing and none
        Check.due("at 0: nothing is less than 0", x.waste(0), 0);
        Check.due("at 1", x.waste(1), 4);
        Check.due("at 2: 5 less than 6", x.waste(2), 5);
        Check.due("at 499: 999 is not less than 998", x.waste(499), 5);
        Check.due("at 500", x.waste(500), 7);
        Check.due("status", x.status(), 0);
        Check.refused("below 0", x, x.waste(-1), 5);
        Check.refused("1,000", x, x.waste(1000), 5);
        Check.due("at 999", x.waste(999), 7);
        x.cut(2);
        // a and b have one each now: 5 and 999
        Check.due("of those that are IN, even is not less", x.waste(999), 1);
        CableDrawer y = Check.with("lead a long 9 costs 10 used 8; lead b long 9 costs 1 used 16; cross a b;");
        Check.due("even is not less", y.waste(5), 2);
        Check.due("b alone at 2", y.waste(2), 2);
        Check.due("not at 1", y.waste(1), 0);
    }
}
