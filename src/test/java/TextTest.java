/** Promises 9 to 19: feed, drawer, years, fault, and what can be asked of a DRAWER. */
public final class TextTest {
    private static final String TWO = "lead a long 9; lead b long 9;";

    public static void main(String[] args) {
        feed();
        drawer();
        drawerFaults();
        faultsOfNumbers();
        faultsOfTooMany();
        years();
        yearsFaults();
        fault();
        many();
        lead();
        crossings();
        looks();
        copyStates();
        Check.finish();
    }

    private static void feed() {
        CableDrawer x = new CableDrawer();
        for (int n = 1; n <= 45; n++) {
            Check.due("feed", x.feed(0x20202020, 0x20202020, 0x20202020, 0x20202020, 0x20202020), 20 * n);
        }
        Check.due("no 920 bytes", x.feed(0, 0, 0, 0, 0), -1);
        Check.due("blanks alone", x.drawer(900), 0);
        Check.due("status", x.status(), 0);
        Check.due("the tape is empty", x.feed(0x6c656164, 0x2061206c, 0x6f6e6720, 0x373b2020, 0x20202020), 20);
        Check.due("the highest byte first", x.drawer(14), 1);
        Check.due("LONG", x.lead(0, 0), 7);
    }

    private static void drawer() {
        CableDrawer x = Check.with("lead a long 9 stiff 2;\nlead  b long9 ends1 9 costs 0999 used 16clip;look\nc b a;"
            + "lead d long 0001;cross a d tight;cross d a threaded ; cross a d knot;cross a d;");
        Check.due("leads", x.many(0), 3);
        Check.due("crossings", x.many(1), 4);
        Check.due("looks", x.many(2), 1);
        Check.refused("more than the tape has", x, x.drawer(1), 5);
        Check.refused("below 0", x, x.drawer(-1), 5);
        int n = Check.feed(x, "lead q long 3;");
        Check.refused("more than the tape has", x, x.drawer(21), 5);
        Check.due("the tape stays with 5", x.drawer(n), 1);
        Check.due("the new one", x.lead(0, 0), 3);
        Check.refused("the tape is empty", x, x.drawer(n), 5);
        Check.due("without a text", x.drawer(0), 0);
        Check.due("status", x.status(), 0);
        Check.due("leads", x.many(0), 0);
        Check.due("none is IN", x.many(3), 0);
        Check.due("a LEAD with the NAME of a LOOK ahead", Check.drawer(x, "lead c long 9; lead az long 9; look a az;"), 2);
        Check.due("the LOOK is another one", x.look(0), 2);
        Check.due("a LEAD with the NAME of that LOOK", Check.drawer(x, "lead a long 9; lead z long 9; look zz z;"), 2);
        Check.due("and that of a LEAD", Check.drawer(x, "lead q long 9; look z q; lead a long 9 clip;"), 2);

        CableDrawer y = Check.with(TWO + "cross a b;", "open 1;");
        y.loosen();
        y.cross(0, 1, 1);
        y.mark();
        y.open(1);
        y.cut(0);
        Check.refused("a FAULT", y, Check.drawer(y, "lead a long;"), 10);
        Check.due("the old one stays", y.many(0), 2);
        Check.due("its SECONDS", y.many(5), 1);
        Check.due("its YEARS", y.mean(0, 1), true);
        Check.refused("the tape is empty", y, y.drawer(12), 5);
        Check.due("a new one", Check.drawer(y, TWO), 2);
        int[] due = {2, 0, 0, 3, 0, 0, 0, 0};
        for (int what = 0; what < 8; what++) {
            Check.due("many(" + what + ") of a new one", y.many(what), due[what]);
        }
        Check.refused("no YEARS", y, y.live(0), 8);
        Check.due("the MARK stays", y.back(), 0);
        Check.due("and has the old one", y.many(1), 1);
    }

    private static void fails(String text, int kind, int place) {
        CableDrawer x = new CableDrawer();
        Check.refused("drawer of " + text, x, Check.drawer(x, text), 10);
        Check.due("FAULT of " + text, x.fault(0), kind);
        Check.due("place in " + text, x.fault(1), place);
    }

    private static void drawerFaults() {
        fails("lead a long 9; A", 1, 15);
        fails("lead a long 9;\t", 1, 14);
        fails("lead a long 9;\u00e9", 1, 14);
        fails("lead a long 12345;", 1, 12);
        fails("lead 12345", 1, 5);
        fails("lead a lon-", 2, 7);
        fails("a", 2, 0);
        fails("  ;", 2, 2);
        fails("leads a long 9;", 2, 0);
        fails("open 3;", 2, 0);
        fails("7", 2, 0);
        fails("<", 2, 0);
        fails("lead", 2, 4);
        fails("lead  \n ", 2, 8);
        fails("lead a long 9", 2, 13);
        fails("lead a long 9;lead b long 9 ", 2, 28);
        fails("lead abcdefghi long 9;", 2, 5);
        fails("lead a 9;", 2, 7);
        fails("lead a long a;", 2, 12);
        fails("lead a long 9 costs 1 stiff 2;", 2, 22);
        fails("lead a long 9 ends 1;", 2, 20);
        fails("lead a long 9 clip clip;", 2, 19);
        fails("lead a long 9 = ;", 2, 14);
        for (String word : ("lead long stiff ends costs used clip cross threaded tight knot look open take loosen pull from"
                + " cut when lump free loop end stop").split(" ")) {
            fails("lead " + word + " long 9;", 2, 5);
            fails(TWO + "cross a " + word, 2, TWO.length() + 8);
        }
        fails("lead a long 9; lead a long 9;", 3, 20);
        fails(TWO + "look a b;", 3, TWO.length() + 5);
        fails(TWO + "look l b; lead l long 9;", 3, TWO.length() + 15);
        fails(TWO + "look l b; look l a;", 3, TWO.length() + 15);
        fails(TWO + "cross a c;", 3, TWO.length() + 8);
        fails(TWO + "cross c a;", 3, TWO.length() + 6);
        fails("cross a b;" + TWO, 3, 6);
        fails(TWO + "look l b; cross a l;", 3, TWO.length() + 18);
        fails(TWO + "look l c;", 3, TWO.length() + 7);
        fails(TWO + "look l l;", 3, TWO.length() + 7);
        fails(TWO + "look l;", 2, TWO.length() + 6);
        fails(TWO + "look l a", 2, TWO.length() + 8);
        fails(TWO + "cross a a;", 5, TWO.length() + 8);
        fails(TWO + "cross a b loose;", 2, TWO.length() + 10);
        fails(TWO + "look l a b a;", 5, TWO.length() + 11);
        String clipped = TWO + "lead c long 9 clip;";
        fails(clipped + "cross c a;", 5, clipped.length() + 6);
        fails(clipped + "cross a c;", 5, clipped.length() + 8);
        fails(clipped + "cross c c;", 5, clipped.length() + 6);
        fails("lead a long 99 A", 4, 12);
    }

    private static void faultsOfNumbers() {
        String[] good = {"long 1", "long 30", "long 9 stiff 0", "long 9 stiff 9", "long 9 ends 1 9", "long 9 ends 9 1",
            "long 9 costs 0", "long 9 costs 999", "long 9 used 0", "long 9 used 16", "long 0030"};
        for (String part : good) {
            Check.with("lead a " + part + ";");
        }
        String[] bad = {"long 0", "long 31", "long 9 stiff 10", "long 9 ends 0", "long 9 ends 10", "long 9 ends 1 0",
            "long 9 ends 1 10", "long 9 costs 1000", "long 9 used 17", "long 9999"};
        for (String part : bad) {
            fails("lead a " + part + ";", 4, 7 + part.lastIndexOf(' ') + 1);
        }
    }

    private static void faultsOfTooMany() {
        String eight = Check.leads(8, "long 9");
        Check.due("eight leads", Check.with(eight).many(0), 8);
        fails(eight + "lead", 6, eight.length());
        fails(eight + "lead a 77777", 6, eight.length());
        StringBuilder full = new StringBuilder(TWO);
        for (int k = 0; k < 24; k++) {
            full.append("cross a b;");
        }
        Check.due("24 crossings", Check.with(full.toString()).many(1), 24);
        fails(full + "cross x y;", 6, full.length());
        String looks = TWO + "look l a;look m a b;look n b;";
        Check.due("three looks", Check.with(looks).many(2), 3);
        fails(looks + "look a", 6, looks.length());
        Check.due("names of 8 letters", Check.with("lead abcdefgh long 9; lead threadee long 9;").many(0), 2);
    }

    private static void years() {
        CableDrawer x = Check.with(TWO + "look l a b;");
        Check.due("a STEP of each kind", Check.years(x, "open 99;take a;loosen;pull b;cut a;clip b;when lump<0;end;"
            + "when lump > 8;end ;when cross=24; stop;end;when\nfree a;end;loop 1;end;loop0099;stop;end;"), 14);
        Check.due("status", x.status(), 0);
        Check.due("thirty STEPS, an end is none", Check.years(x, "loop 2;" + "stop;".repeat(29) + "end;"), 30);
        Check.due("without a text", x.years(0), 0);
        Check.due("YEARS without a STEP are there", x.live(0), 0);
        Check.due("status", x.status(), 0);
        Check.refused("below 0", x, x.years(-1), 5);
        Check.refused("more than the tape has", x, x.years(1), 5);
        String blanks = " ".repeat(320);
        Check.feed(x, blanks);
        Check.refused("above 300", x, x.years(301), 5);
        Check.due("300", x.years(300), 0);
        Check.refused("the tape is empty", x, x.years(1), 5);
        Check.due("YEARS", Check.years(x, "loosen; loosen;"), 2);
        Check.refused("a FAULT", x, Check.years(x, "loosen; loose;"), 10);
        Check.due("the old ones stay", x.live(0), 2);
        Check.refused("the tape is empty", x, x.years(1), 5);
        x.cut(0);
        Check.due("a LEAD that was CUT has its NAME", Check.years(x, "take a;"), 1);
    }

    private static void lapses(String text, int kind, int place) {
        CableDrawer x = Check.with(TWO + "look l a b;");
        Check.refused("years of " + text, x, Check.years(x, text), 10);
        Check.due("FAULT of " + text, x.fault(0), kind);
        Check.due("place in " + text, x.fault(1), place);
        Check.refused("no YEARS then", x, x.live(0), 8);
    }

    private static void yearsFaults() {
        lapses("loosen; ?", 1, 8);
        lapses("open 00001;", 1, 5);
        lapses("open;", 2, 4);
        lapses("open 3", 2, 6);
        lapses("lead a long 9;", 2, 0);
        lapses("a;", 2, 0);
        lapses("end;", 2, 0);
        lapses("loop 2; end; end;", 2, 13);
        lapses("loop 2; loosen; ", 2, 16);
        lapses("loop 2; end", 2, 11);
        lapses("take;", 2, 4);
        lapses("take stop;", 2, 5);
        lapses("take abcdefghi;", 2, 5);
        lapses("when a;", 2, 5);
        lapses("when lump 3;", 2, 10);
        lapses("when lump < > 3;", 2, 12);
        lapses("when free < 3;", 2, 10);
        lapses("when cross < a;", 2, 13);
        lapses("loosen 3;", 2, 7);
        lapses("stop stop", 2, 5);
        lapses("take c;", 3, 5);
        lapses("pull l;", 3, 5);
        lapses("cut c;", 3, 4);
        lapses("clip c;", 3, 5);
        lapses("when free c;", 3, 10);
        lapses("open 0;", 4, 5);
        lapses("open 100;", 4, 5);
        lapses("loop 0;", 4, 5);
        lapses("loop 100;", 4, 5);
        lapses("when lump = 9;", 4, 12);
        lapses("when cross = 25;", 4, 13);
        String thirty = "stop;".repeat(30);
        lapses(thirty + "stop", 6, 150);
        lapses(thirty + "end;", 2, 150);
        lapses("loop 1;" + "stop;".repeat(29) + "loop", 6, 152);
        String three = "loop 1;when free a;loop 2;";
        lapses(three + "when lump", 7, three.length());
        lapses(three + "loop", 7, three.length());
        lapses(three + "stop;".repeat(27) + "loop", 6, three.length() + 27 * 5);
        CableDrawer x = Check.with(TWO);
        Check.due("three deep, twice", Check.years(x, three + "end;loop 1;end;end;end;" + three + "end;end;end;"), 7);
    }

    private static void fault() {
        CableDrawer x = new CableDrawer();
        Check.refused("5 leaves it", x, x.drawer(9), 5);
        Check.due("ahead of any", x.fault(0), -1);
        Check.drawer(x, "lead");
        Check.due("fault(0)", x.fault(0), 2);
        Check.due("fault(1)", x.fault(1), 4);
        Check.due("fault(2)", x.fault(2), -1);
        Check.due("fault(-1)", x.fault(-1), -1);
        Check.refused("5 leaves it", x, x.years(9), 5);
        Check.due("fault(0)", x.fault(0), 2);
        Check.drawer(x, "");
        Check.due("without one", x.fault(0), 0);
        Check.due("without a place", x.fault(1), -1);
        Check.years(x, " 7");
        Check.due("of the latest of these", x.fault(0), 2);
        Check.due("its place", x.fault(1), 1);
        Check.years(x, "loosen;");
        Check.due("without one", x.fault(0), 0);
        Check.due("without a place", x.fault(1), -1);
    }

    private static void many() {
        CableDrawer x = Check.with(TWO + "lead c long 9 costs 40 clip; lead d long 9 clip; cross b a knot; look l a;look m b;");
        int[] due = {4, 1, 2, 15, 12, 0, 0, 0};
        for (int what = 0; what < 8; what++) {
            Check.due("many(" + what + ")", x.many(what), due[what]);
        }
        x.cut(2);
        x.loosen();
        x.open(0);
        Check.due("the set of LEADS that are IN", x.many(3), 11);
        Check.due("with a CLIP and IN", x.many(4), 8);
        Check.due("SECONDS", x.many(5), 1);
        Check.due("PENCE", x.many(6), 40);
        Check.due("OPENINGS", x.many(7), 1);
        Check.refused("many(-1)", x, x.many(-1), 5);
        Check.refused("many(8)", x, x.many(8), 5);
    }

    private static void lead() {
        CableDrawer x = Check.with("lead a long 13 stiff 2 ends 4 6 costs 77 used 5; lead b long 30; lead c long 30 stiff 9;"
            + "lead d long 3 stiff 1; lead e long 3 stiff 2; lead f long 29; cross a b; cross c a; cross b c;");
        int[] due = {13, 2, 4, 6, 77, 5, 2, 4};
        for (int what = 0; what < 8; what++) {
            Check.due("lead(0, " + what + ")", x.lead(0, what), due[what]);
        }
        int[] without = {30, 0, 3, 3, 0, 0, 2, 15};
        for (int what = 0; what < 8; what++) {
            Check.due("lead(1, " + what + ")", x.lead(1, what), without[what]);
        }
        Check.due("RISK 15 less 9", x.lead(2, 7), 6);
        Check.due("RISK 1 less 1", x.lead(3, 7), 0);
        Check.due("RISK is 0 at least", x.lead(4, 7), 0);
        Check.due("RISK rounded down", x.lead(5, 7), 14);
        Check.refused("no such LEAD", x, x.lead(6, 0), 2);
        Check.refused("no such LEAD, ahead of 5", x, x.lead(-1, 8), 2);
        Check.refused("no such number", x, x.lead(0, 8), 5);
        Check.refused("no such number", x, x.lead(0, -1), 5);
        x.cut(0);
        Check.due("a LEAD that was CUT has its numbers", x.lead(0, 0), 13);
        Check.due("and no CROSSINGS", x.lead(0, 6), 0);
        Check.due("status", x.status(), 0);
    }

    private static void crossings() {
        CableDrawer x = Check.with(TWO + "lead c long 9; cross a b tight; cross c a; cross b c knot; cross b a threaded;");
        int[][] due = {{0, 1, 2}, {2, 0, 0}, {1, 2, 3}, {1, 0, 1}};
        for (int k = 0; k < 4; k++) {
            for (int what = 0; what < 3; what++) {
                Check.due("crossing(" + k + ", " + what + ")", x.crossing(k, what), due[k][what]);
            }
        }
        Check.refused("no such", x, x.crossing(4, 0), 8);
        Check.refused("no such", x, x.crossing(-1, 0), 8);
        Check.refused("5 ahead of 8", x, x.crossing(4, 3), 5);
        Check.refused("5", x, x.crossing(0, -1), 5);
        Check.due("along(0, 0)", x.along(0, 0), 0);
        Check.due("along(0, 1)", x.along(0, 1), 1);
        Check.due("along(0, 2)", x.along(0, 2), 3);
        Check.due("along(2, 1)", x.along(2, 1), 2);
        Check.refused("no such", x, x.along(2, 2), 8);
        Check.refused("no such", x, x.along(2, -1), 8);
        Check.refused("no such LEAD", x, x.along(3, 0), 2);
        Check.due("between(0, 1)", x.between(0, 1), 2);
        Check.due("between(1, 0)", x.between(1, 0), 2);
        Check.due("between(1, 2)", x.between(1, 2), 1);
        Check.refused("one and itself", x, x.between(1, 1), 5);
        Check.refused("no such LEAD", x, x.between(3, 3), 2);
        Check.refused("no such LEAD", x, x.between(0, -1), 2);
        x.cut(0);
        Check.due("the row closes", x.crossing(0, 2), 3);
        Check.refused("8 for a LEAD that was CUT", x, x.along(0, 0), 8);
        Check.due("between(0, 1)", x.between(0, 1), 0);
        Check.due("status", x.status(), 0);
    }

    private static void looks() {
        CableDrawer x = Check.with(TWO + "lead c long 9; look l c a; look m b;");
        Check.due("look(0)", x.look(0), 5);
        Check.due("look(1)", x.look(1), 2);
        Check.refused("no such LOOK", x, x.look(2), 2);
        Check.refused("no such LOOK", x, x.look(-1), 2);
        x.cut(0);
        Check.due("with a LEAD that was CUT", x.look(0), 5);
    }

    private static void copyStates() {
        CableDrawer x = Check.with(TWO + "cross a b knot; cross a b; cross b a tight;");
        Check.refused("no such TRAY", x, x.copyStates(4), 1);
        Check.refused("no such TRAY", x, x.copyStates(-1), 1);
        Check.refused("MISSING", x, x.copyStates(0), 3);
        x.tray(0, 0, 2);
        Check.refused("too few numbers", x, x.copyStates(0), 4);
        Check.due("nothing came", x.read(0, 0), 0);
        x.tray(1, 3, 4);
        x.write(1, 1, 9);
        x.write(1, 3, 9);
        Check.due("copyStates", x.copyStates(1), 3);
        int[] due = {3, 0, 2, 9};
        for (int i = 0; i < 4; i++) {
            Check.due("place " + i, x.read(1, i), due[i]);
        }
        x.tray(2, 0, 3);
        Check.due("just enough", x.copyStates(2), 3);
        x.cut(0);
        x.tray(2, 0, 0);
        Check.due("none into none", x.copyStates(2), 0);
        Check.due("status", x.status(), 0);
    }
}
