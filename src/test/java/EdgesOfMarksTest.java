import java.util.function.Consumer;

/** MARKS and promises 55 and 56, sentence by sentence. */
public final class EdgesOfMarksTest {
    private static final String THREE = "lead a long 9 costs 5;lead b long 9 costs 6;lead c long 9 clip;look l a b;cross a b tight;cross a b;";

    public static void main(String[] args) {
        mark();
        back();
        latest();
        allIsTakenBack();
        anotherDrawer();
        yearsAsTheyAre();
        refusals();
        Check.finish();
    }

    private static void mark() {
        Check.sentence(55, "A MARK more: how many there are (7).");
        Check.sentence(Check.TERMS, "MARKS, at most 3");
        for (CableDrawer x : new CableDrawer[] {Scene.blank(), Check.with(THREE)}) {
            for (int n = 1; n <= 3; n++) {
                Check.answers("mark()", x, x.mark(), n);
            }
            Check.refused("a fourth", x, x.mark(), 7);
            Check.refused("a fourth again", x, x.mark(), 7);
            Check.answers("back()", x, x.back(), 2);
            Check.answers("a third again", x, x.mark(), 3);
            Check.refused("a fourth", x, x.mark(), 7);
        }
    }

    private static void back() {
        Check.sentence(56, "All is taken back to the latest MARK: how many there are left (8).");
        CableDrawer x = Check.with(THREE);
        Check.refused("none", x, x.back(), 8);
        for (int n = 1; n <= 3; n++) {
            for (int made = 1; made <= n; made++) {
                Check.answers("mark()", x, x.mark(), made);
            }
            for (int left = n - 1; left >= 0; left--) {
                Check.answers("back()", x, x.back(), left);
            }
            Check.refused("none is left", x, x.back(), 8);
            Check.refused("none is left", x, x.back(), 8);
        }
    }

    private static void latest() {
        Check.sentence(Check.TERMS, "all is taken back to the latest MARK, which is gone then.");
        CableDrawer x = Check.with(THREE);
        x.mark();
        x.pull(2);
        x.mark();
        x.pull(2);
        x.mark();
        x.pull(2);
        Check.refused("a fourth keeps nothing", x, x.mark(), 7);
        x.pull(2);
        Check.due("SECONDS", x.many(5), 8);
        Check.answers("the third", x, x.back(), 2);
        Check.due("SECONDS", x.many(5), 4);
        Check.answers("the second: the third is gone", x, x.back(), 1);
        Check.due("SECONDS", x.many(5), 2);
        x.pull(2);
        x.pull(2);
        Check.answers("a new second", x, x.mark(), 2);
        x.pull(2);
        Check.answers("the new second", x, x.back(), 1);
        Check.due("SECONDS", x.many(5), 6);
        Check.answers("the first", x, x.back(), 0);
        Check.due("SECONDS", x.many(5), 0);
        Check.refused("none is left", x, x.back(), 8);
        Check.due("what it leaves as it was", x.many(5), 0);
    }

    private static void takenBack(String what, Consumer<CableDrawer> done) {
        CableDrawer x = Check.with(THREE, "open 3;take a;cut b;");
        CableDrawer y = Check.with(THREE, "open 3;take a;cut b;");
        x.mark();
        done.accept(x);
        Check.answers("back() from " + what, x, x.back(), 0);
        // what the calls told latest is not of the DRAWER: both are told alike
        for (CableDrawer each : new CableDrawer[] {x, y}) {
            each.alone(0);
            each.all();
            each.grows();
            each.mark();
            each.live(0);
            each.back();
        }
        String difference = Scene.difference(x, y);
        Check.due("back from " + what + " (" + difference + ")", difference.isEmpty(), true);
    }

    private static void allIsTakenBack() {
        Check.sentence(Check.TERMS, "the DRAWER with all that became of it");
        takenBack("nothing", x -> x.many(0));
        takenBack("a FOLLOWING", x -> x.follow(0, 1));
        takenBack("a LOOSENING", CableDrawer::loosen);
        takenBack("a PULL", x -> x.pull(0));
        takenBack("a PULL that comes", x -> x.pull(2));
        takenBack("a CUT", x -> x.cut(0));
        takenBack("a CUT of one with a CLIP", x -> x.cut(2));
        takenBack("no CLIP", x -> x.unclip(2));
        takenBack("a CLIP", x -> {
            x.cut(0);
            x.clip(1);
        });
        takenBack("a CROSSING", x -> x.cross(1, 0, 3));
        takenBack("an OPENING", x -> x.open(9));
        takenBack("a life", x -> x.live(9));
        takenBack("other YEARS", x -> Check.years(x, "loosen;"));
        takenBack("no YEARS, and no LEADS", x -> Check.drawer(x, ""));
        takenBack("24 CROSSINGS", x -> {
            for (int n = 0; n < 22; n++) {
                x.cross(1, 0, n % 4);
            }
        });
        Check.sentence(Check.TERMS, "the DRAWER with all that became of it");
        CableDrawer full = Check.with(THREE);
        for (int n = 0; n < 22; n++) {
            full.cross(1, 0, n % 4);
        }
        full.mark();
        full.cut(0);
        full.back();
        Check.due("24 CROSSINGS are there again", full.many(1), 24);
        Check.due("the first", full.crossing(0, 2), 2);
        Check.due("the last", full.crossing(23, 2), 1);
        Check.due("no PENCE", full.many(6), 0);
    }

    private static void anotherDrawer() {
        Check.sentence(Check.TERMS, "the DRAWER with all that became of it");
        CableDrawer x = Check.with(THREE);
        x.loosen();
        x.mark();
        String eight = Check.leads(8, "long 30 stiff 5 costs 900 used 3");
        Check.answers("eight LEADS", x, Check.drawer(x, eight + "look x a;look y a;look z a b;"), 8);
        Check.answers("MARKS stay", x, x.mark(), 2);
        Check.answers("drawer of no bytes", x, x.drawer(0), 0);
        x.back();
        Check.answers("eight LEADS", x, x.many(0), 8);
        Check.answers("three LOOKS", x, x.look(2), 3);
        Check.answers("LONG", x, x.lead(7, 0), 30);
        x.back();
        Check.answers("three LEADS", x, x.many(0), 3);
        Check.refused("no fourth", x, x.lead(3, 0), 2);
        Check.answers("one LOOK", x, x.many(2), 1);
        Check.answers("its set", x, x.look(0), 3);
        Check.answers("LONG", x, x.lead(0, 0), 9);
        Check.answers("COSTS", x, x.lead(1, 4), 6);
        Check.answers("RISK", x, x.lead(0, 7), 4);
        Check.answers("a CLIP", x, x.many(4), 4);
        Check.answers("SECONDS", x, x.many(5), 2);
        Check.row(x, 0, 1, 1);
        Check.answers("its NAMES", x, Check.years(x, "take a;take b;take c;"), 3);
        Check.refused("the others' NAMES", x, Check.years(x, "take d;"), 10);
        Check.due("fault(0)", x.fault(0), 3);
    }

    private static void yearsAsTheyAre() {
        Check.sentence(Check.TERMS, "the YEARS are kept as they are");
        CableDrawer x = Check.with(THREE, "loosen;loosen;");
        x.mark();
        Check.years(x, "stop;");
        Check.answers("others", x, x.live(0), 1);
        x.back();
        Check.answers("those that were there with the MARK", x, x.live(0), 2);
        CableDrawer y = Check.with(THREE);
        y.mark();
        Check.years(y, "stop;");
        y.back();
        Check.refused("none were there with the MARK", y, y.live(0), 8);
        Check.years(y, "loosen;stop;");
        y.mark();
        Check.drawer(y, "");
        Check.refused("none with another DRAWER", y, y.live(0), 8);
        y.back();
        Check.answers("those that were there with the MARK", y, y.live(0), 2);
    }

    private static void refusals() {
        Check.sentence(55, "(7)");
        Scene.refuses("a fourth", Scene::marked, CableDrawer::mark, 7);
        Check.sentence(56, "(8)");
        Scene.refuses("none", Scene::blank, CableDrawer::back, 8);
        Scene.refuses("none", () -> Check.with(THREE, "loosen;"), CableDrawer::back, 8);
        Check.sentence(56, "All is taken back to the latest MARK");
        Scene.keeps("back() of a mark()", Scene::full, x -> {
            x.mark();
            return x.back();
        });
    }
}
