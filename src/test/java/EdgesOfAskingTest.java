/** Promises 13 to 19, sentence by sentence: what can be asked of a DRAWER. */
public final class EdgesOfAskingTest {
    private static final int MIN = Integer.MIN_VALUE;
    private static final int MAX = Integer.MAX_VALUE;
    private static final String TWO = "lead a long 9;lead b long 9;";

    public static void main(String[] args) {
        many();
        manySets();
        manySums();
        lead();
        risk();
        leadThatWasCut();
        crossing();
        along();
        look();
        between();
        copyStates();
        copyStatesPlaces();
        Check.finish();
    }

    private static void many() {
        Check.sentence(13, "LEADS (what 0), CROSSINGS (1), LOOKS (2), the set of LEADS that are IN (3: 1 for LEAD 0 ..), "
            + "with a CLIP and IN (4), SECONDS spent (5), PENCE spent (6), OPENINGS (7) (5).");
        CableDrawer x = Check.with("lead a long 1 costs 20;lead b long 9;lead c long 9 clip;lead d long 1;cross a b;cross b a knot;look l a;");
        x.loosen();
        x.cut(0);
        x.open(0);
        x.open(0);
        x.open(0);
        int[] due = {4, 0, 1, 14, 4, 2, 20, 3};
        // b has RISK 4 and draws 4, which is no less
        for (int what = 0; what <= 7; what++) {
            Check.answers("many(" + what + ")", x, x.many(what), due[what]);
        }
        for (int what : new int[] {-1, 8, MIN, MAX}) {
            Scene.refuses("many(" + what + ")", Scene::full, y -> y.many(what), 5);
        }
        Scene.keeps("many(0)", Scene::full, y -> y.many(0));
    }

    private static void manySets() {
        Check.sentence(13, "the set of LEADS that are IN (3: 1 for LEAD 0 ..), with a CLIP and IN (4)");
        CableDrawer x = Check.with(Check.leads(8, "long 9 clip"));
        Check.due("all eight IN", x.many(3), 255);
        Check.due("all eight with a CLIP", x.many(4), 255);
        int in = 255;
        for (int lead = 0; lead < 8; lead++) {
            Check.answers("cut(" + lead + ")", x, x.cut(lead), 0);
            in -= 1 << lead;
            Check.due("LEADS are as many as they were", x.many(0), 8);
            Check.due("IN without " + lead, x.many(3), in);
            Check.due("with a CLIP and IN without " + lead, x.many(4), in);
        }
        CableDrawer y = Check.with(Check.leads(8, "long 9"));
        Check.due("none with a CLIP", y.many(4), 0);
        y.clip(7);
        Check.due("the last one", y.many(4), 128);
        y.clip(0);
        Check.due("and the first", y.many(4), 129);
        y.unclip(7);
        Check.due("the first alone", y.many(4), 1);
    }

    private static void manySums() {
        Check.sentence(13, "SECONDS spent (5), PENCE spent (6), OPENINGS (7)");
        CableDrawer x = Check.with(Check.leads(8, "long 9 costs 999"));
        for (int lead = 0; lead < 8; lead++) {
            x.cut(lead);
        }
        Check.due("PENCE of eight", x.many(6), 7992);
        Check.due("CUT takes no SECONDS", x.many(5), 0);
        CableDrawer y = Check.with(TWO);
        for (int n = 0; n < 200; n++) {
            y.pull(n % 2);
        }
        Check.due("SECONDS of 200 PULLS", y.many(5), 400);
        for (int n = 0; n < 200; n++) {
            y.open(n);
        }
        Check.due("OPENINGS", y.many(7), 200);
        Check.due("an OPENING takes no SECONDS", y.many(5), 400);
        Check.due("nor PENCE", y.many(6), 0);
    }

    private static void lead() {
        Check.sentence(14, "Of a LEAD, what 0: LONG, 1: STIFF, 2, 3: its ENDS, 4: COSTS, 5: USED, 6: CROSSINGS, 7: RISK (2; 5).");
        CableDrawer x = Check.with("lead a long 1 stiff 0 ends 1 9 costs 0 used 0;lead b long 30 stiff 9 ends 9 1 costs 999 used 16;lead c long 7;");
        int[][] due = {{1, 0, 1, 9, 0, 0, 24, 0}, {30, 9, 9, 1, 999, 16, 24, 6}, {7, 0, 3, 3, 0, 0, 0, 3}};
        for (int n = 0; n < 24; n++) {
            x.cross(n % 2, 1 - n % 2, 0);
        }
        for (int lead = 0; lead < 3; lead++) {
            for (int what = 0; what <= 7; what++) {
                Check.answers("lead(" + lead + ", " + what + ")", x, x.lead(lead, what), due[lead][what]);
            }
        }
        for (int wrong : new int[] {-1, 5, 8, MIN, MAX}) {
            Scene.refuses("lead(" + wrong + ", 0)", Scene::full, y -> y.lead(wrong, 0), 2);
            Scene.refuses("2 ahead of 5: lead(" + wrong + ", 8)", Scene::full, y -> y.lead(wrong, 8), 2);
        }
        for (int wrong : new int[] {-1, 8, MIN, MAX}) {
            Scene.refuses("lead(0, " + wrong + ")", Scene::full, y -> y.lead(0, wrong), 5);
        }
        Scene.refuses("a new one has no LEAD 0", Scene::blank, y -> y.lead(0, 0), 2);
        Scene.keeps("lead(0, 7)", Scene::full, y -> y.lead(0, 7));
    }

    private static void risk() {
        Check.sentence(Check.TERMS, "RISK: LONG by 2, rounded down, less STIFF, 0 at least, 15 at most.");
        for (int length = 1; length <= 30; length++) {
            for (int stiff = 0; stiff <= 9; stiff++) {
                CableDrawer x = Check.with("lead a long " + length + " stiff " + stiff + ";");
                int due = 0;
                for (int two = 2; two <= length; two += 2) {
                    due++;
                }
                for (int n = 0; n < stiff && due > 0; n++) {
                    due--;
                }
                Check.answers("RISK of LONG " + length + ", STIFF " + stiff, x, x.lead(0, 7), due);
            }
        }
        Check.due("15 at most", Check.with("lead a long 30;").lead(0, 7), 15);
        Check.due("0 at least", Check.with("lead a long 17 stiff 9;").lead(0, 7), 0);
    }

    private static void leadThatWasCut() {
        Check.sentence(Check.TERMS, "A LEAD that was CUT is there for its numbers, but not IN");
        CableDrawer x = Check.with("lead a long 30 stiff 2 ends 4 5 costs 6 used 7;lead b long 9;cross a b knot;look l a b;");
        x.cut(0);
        int[] due = {30, 2, 4, 5, 6, 7, 0, 13};
        for (int what = 0; what <= 7; what++) {
            Check.answers("lead(0, " + what + ")", x, x.lead(0, what), due[what]);
        }
        Check.answers("LEADS", x, x.many(0), 2);
        Check.answers("those that are IN", x, x.many(3), 2);
        Check.answers("the set of a LOOK", x, x.look(0), 3);
        Check.answers("between(0, 1)", x, x.between(0, 1), 0);
        Check.refused("along(0, 0)", x, x.along(0, 0), 8);
        Check.answers("free(0)", x, x.free(0), 0);
        Check.sentence(Check.TERMS, "calls tell 9 for it where no other STATUS is told.");
        Check.refused("follow(0, 0)", x, x.follow(0, 0), 9);
        Check.refused("pull(0)", x, x.pull(0), 9);
        Check.refused("cut(0)", x, x.cut(0), 9);
        Check.refused("clip(0)", x, x.clip(0), 9);
        Check.refused("unclip(0)", x, x.unclip(0), 9);
        Check.refused("cross(0, 1, 0)", x, x.cross(0, 1, 0), 9);
        Check.refused("cross(1, 0, 0)", x, x.cross(1, 0, 0), 9);
        Check.refused("lump(0)", x, x.lump(0), 9);
        Check.refused("comes(0)", x, x.comes(0), 9);
        Check.refused("worse(0, 0)", x, x.worse(0, 0), 9);
        Check.refused("alone(0)", x, x.alone(0), 9);
        Check.refused("follows(0, 0, 0)", x, x.follows(0, 0, 0), 9);
        Check.refused("fresh(0, 0)", x, x.fresh(0, 0), 9);
        Check.refused("another STATUS: follow(0, 2)", x, x.follow(0, 2), 5);
        Check.refused("another STATUS: cross(0, 0, 0)", x, x.cross(0, 0, 0), 5);
        Check.refused("another STATUS: worse(0, 4)", x, x.worse(0, 4), 5);
    }

    private static void crossing() {
        Check.sentence(15, "Of the k-th CROSSING, what 0: the LEAD over, 1: the other one, 2: STATE (5; 8: no such).");
        CableDrawer x = Check.with(Check.leads(8, "long 9"));
        Check.refused("none", x, x.crossing(0, 0), 8);
        for (int n = 0; n < 24; n++) {
            x.cross(n % 8, (n + 1 + n / 8) % 8, n % 4);
            Check.answers("over, of " + n, x, x.crossing(n, 0), n % 8);
            Check.answers("the other one, of " + n, x, x.crossing(n, 1), (n + 1 + n / 8) % 8);
            Check.answers("STATE, of " + n, x, x.crossing(n, 2), n % 4);
            Check.refused("the next", x, x.crossing(n + 1, 0), 8);
        }
        Check.answers("the first", x, x.crossing(0, 1), 1);
        for (int wrong : new int[] {-1, 3, MIN, MAX}) {
            Scene.refuses("no such: " + wrong, Scene::full, y -> y.crossing(wrong, 0), 8);
            Scene.refuses("what " + wrong, Scene::full, y -> y.crossing(0, wrong), 5);
            Scene.refuses("5 ahead of 8: " + wrong, Scene::full, y -> y.crossing(wrong, 3), 5);
        }
        Scene.refuses("24 of 24", Scene::crossed, y -> y.crossing(24, 2), 8);
        Scene.keeps("crossing(2, 2)", Scene::full, y -> y.crossing(2, 2));
    }

    private static void along() {
        Check.sentence(16, "The number of the k-th CROSSING of a LEAD from its END 0 (2; 8: no such).");
        Check.sentence(Check.TERMS, "Those of a LEAD, in this order, go from its END 0 to its END 1.");
        CableDrawer x = Check.with(TWO + "lead c long 9;lead d long 9;cross a b;cross c b;cross c a;cross b a;cross b c;");
        int[][] due = {{0, 2, 3}, {0, 1, 3, 4}, {1, 2, 4}, {}};
        for (int lead = 0; lead < 4; lead++) {
            for (int k = 0; k < due[lead].length; k++) {
                Check.answers("along(" + lead + ", " + k + ")", x, x.along(lead, k), due[lead][k]);
            }
            Check.refused("just behind the last", x, x.along(lead, due[lead].length), 8);
            Check.refused("ahead of the first", x, x.along(lead, -1), 8);
        }
        Scene.refuses("no such LEAD: -1", Scene::full, y -> y.along(-1, 0), 2);
        Scene.refuses("no such LEAD: 5", Scene::full, y -> y.along(5, 0), 2);
        Scene.refuses("2 ahead of 8", Scene::full, y -> y.along(5, -1), 2);
        Scene.refuses("a FREE one has none", Scene::full, y -> y.along(Scene.FREE, 0), 8);
        Scene.refuses("one that was CUT has none", Scene::full, y -> y.along(Scene.CUT, 0), 8);
        Scene.refuses("far off", Scene::full, y -> y.along(0, MAX), 8);
        Scene.refuses("far below", Scene::full, y -> y.along(0, MIN), 8);
        CableDrawer full = Scene.crossed();
        Check.answers("the last of 24", full, full.along(0, 23), 23);
        Scene.refuses("a 25th", Scene::crossed, y -> y.along(0, 24), 8);
        Scene.keeps("along(0, 0)", Scene::full, y -> y.along(0, 0));
    }

    private static void look() {
        Check.sentence(17, "The set of LEADS of a LOOK (2).");
        CableDrawer x = Check.with(Check.leads(8, "long 9") + "look l a;look m h;look n h g f e d c b a;");
        Check.answers("the first LEAD alone", x, x.look(0), 1);
        Check.answers("the last LEAD alone", x, x.look(1), 128);
        Check.answers("all eight", x, x.look(2), 255);
        for (int wrong : new int[] {-1, 3, MIN, MAX}) {
            Scene.refuses("look(" + wrong + ")", Scene::full, y -> y.look(wrong), 2);
        }
        Scene.refuses("without LOOKS", Scene::blank, y -> y.look(0), 2);
        CableDrawer one = Check.with(TWO + "look l b;");
        Check.answers("one LOOK", one, one.look(0), 2);
        Check.refused("a second one", one, one.look(1), 2);
        Scene.keeps("look(0)", Scene::full, y -> y.look(0));
    }

    private static void between() {
        Check.sentence(18, "How many CROSSINGS two LEADS have (2; 5: one and itself).");
        CableDrawer x = Check.with(TWO + "lead c long 9;cross a b;cross b a knot;cross c b tight;");
        int[][] due = {{-1, 2, 0}, {2, -1, 1}, {0, 1, -1}};
        for (int a = 0; a < 3; a++) {
            for (int b = 0; b < 3; b++) {
                Check.due("between(" + a + ", " + b + ")", x.between(a, b), due[a][b]);
                Check.due("its STATUS", x.status(), a == b ? 5 : 0);
            }
        }
        CableDrawer full = Scene.crossed();
        Check.answers("all 24", full, full.between(1, 0), 24);
        Scene.refuses("one and itself", Scene::full, y -> y.between(0, 0), 5);
        Scene.refuses("one that was CUT and itself", Scene::full, y -> y.between(Scene.CUT, Scene.CUT), 5);
        for (int wrong : new int[] {-1, 5, MIN, MAX}) {
            Scene.refuses("between(" + wrong + ", 0)", Scene::full, y -> y.between(wrong, 0), 2);
            Scene.refuses("between(0, " + wrong + ")", Scene::full, y -> y.between(0, wrong), 2);
            Scene.refuses("2 ahead of 5: " + wrong, Scene::full, y -> y.between(wrong, wrong), 2);
        }
        Scene.keeps("between(0, 1)", Scene::full, y -> y.between(0, 1));
    }

    private static void copyStates() {
        Check.sentence(19, "STATES of all CROSSINGS come to a TRAY: how many (1; 3; 4; asked in this order).");
        CableDrawer x = Check.with(TWO + "cross a b knot;cross a b;cross b a tight;cross a b threaded;");
        int[] due = {3, 0, 2, 1, 9};
        for (int sort = 0; sort <= 3; sort++) {
            x.tray(sort, sort, 5);
            x.write(sort, 1, 9);
            x.write(sort, 4, 9);
            Check.answers("copyStates(" + sort + ")", x, x.copyStates(sort), 4);
            for (int place = 0; place < 5; place++) {
                Check.answers("read(" + sort + ", " + place + ")", x, x.read(sort, place), due[place]);
            }
        }
        Scene.refuses("TRAY -1", Scene::full, y -> y.copyStates(-1), 1);
        Scene.refuses("TRAY 4", Scene::full, y -> y.copyStates(4), 1);
        Scene.refuses("a MISSING one", Scene::full, y -> y.copyStates(3), 3);
        Scene.refuses("3 though there are none", Scene::blank, y -> y.copyStates(0), 3);
        Scene.refuses("too few numbers", Scene::crossed, y -> y.copyStates(0), 4);
        Scene.refuses("without numbers", Scene::full, y -> y.copyStates(2), 4);
    }

    private static void copyStatesPlaces() {
        Check.sentence(Check.TERMS, "4 a place that the TRAY has not, or too few numbers.");
        CableDrawer x = Check.with(TWO);
        x.tray(0, 0, 0);
        Check.answers("none to a TRAY without numbers", x, x.copyStates(0), 0);
        for (int n = 0; n < 24; n++) {
            x.cross(0, 1, 3);
        }
        x.tray(0, 0, 23);
        Check.refused("24 to 23", x, x.copyStates(0), 4);
        for (int place = 0; place < 23; place++) {
            Check.answers("none came", x, x.read(0, place), 0);
        }
        x.tray(0, 0, 24);
        Check.answers("24 to 24", x, x.copyStates(0), 24);
        Check.answers("the first", x, x.read(0, 0), 3);
        Check.answers("the last", x, x.read(0, 23), 3);
    }
}
