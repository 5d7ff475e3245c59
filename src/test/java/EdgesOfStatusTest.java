import java.util.function.Predicate;
import java.util.function.ToLongFunction;

/** The order in which a call's STATUS is asked for: where several hold, the one that is told. */
public final class EdgesOfStatusTest {
    private static final int MIN = Integer.MIN_VALUE;
    private static final int MAX = Integer.MAX_VALUE;
    private static final int NO_LEAD = Scene.LEADS;
    private static final int CUT = Scene.CUT;

    public static void main(String[] args) {
        Check.sentence(Check.TERMS, "STATUS of a call is the first of these that holds: 1 no such TRAY (or sort). 2 no such LEAD, LOOK. "
            + "3 the TRAY is MISSING. 4 a place that the TRAY has not, or too few numbers. 5 a number that can't be. "
            + "6 below 0 (a TRAY's length). 7 one too many. 8 there is none. 9 it can't be. 10 a FAULT. 11 TRAYS of unlike sorts. 0 else.");
        trays();
        texts();
        done();
        hanging();
        howLong();
        worth();
        years();
        none();
        withoutStatus();
        Check.finish();
    }

    private static void tells(String call, int status, ToLongFunction<CableDrawer> asked) {
        CableDrawer x = Scene.full();
        Check.refused(call, x, asked.applyAsLong(x), status);
    }

    private static void denies(String call, int status, Predicate<CableDrawer> asked) {
        CableDrawer x = Scene.full();
        Check.refused(call, x, asked.test(x), status);
    }

    private static void trays() {
        denies("no such TRAY, no such sort, too long", 1, x -> x.tray(4, 4, 61));
        denies("no such TRAY, below 0", 1, x -> x.tray(-1, 0, -1));
        denies("no such sort, too long", 1, x -> x.tray(0, 4, 61));
        denies("no such sort, below 0", 1, x -> x.tray(0, -1, MIN));
        denies("too long", 5, x -> x.tray(3, 3, MAX));
        denies("below 0", 6, x -> x.tray(3, 3, MIN));
        denies("no such TRAY, no such place", 1, x -> x.write(4, -1, 0));
        denies("MISSING, no such place", 3, x -> x.write(3, 60, 0));
        denies("no such place", 4, x -> x.write(0, 3, 0));
        tells("no such TRAY, no such place", 1, x -> x.read(-1, MAX));
        tells("MISSING, no such place", 3, x -> x.read(3, MIN));
        tells("no such place", 4, x -> x.read(2, 0));
        denies("the second no such TRAY, the first MISSING", 1, x -> x.pour(3, -1, 4, -1, -1));
        denies("the first no such TRAY, the second MISSING", 1, x -> x.pour(-1, -1, 3, -1, -1));
        denies("the first MISSING, the second of another sort", 3, x -> x.pour(3, -1, 2, -1, -1));
        denies("the second MISSING, the first of another sort", 3, x -> x.pour(2, -1, 3, -1, -1));
        denies("unlike sorts, below 0, no such places", 11, x -> x.pour(0, -1, 2, -1, -1));
        denies("unlike sorts, no such places", 11, x -> x.pour(2, 5, 0, 5, 5));
        denies("below 0, no such places", 6, x -> x.pour(0, -1, 1, 4, -1));
        denies("below 0 on itself, no such place", 6, x -> x.pour(0, 4, 0, 4, MIN));
        denies("no such places", 4, x -> x.pour(0, 4, 1, 4, 1));
        tells("no such TRAY", 1, x -> x.copyStates(4));
        tells("MISSING", 3, x -> x.copyStates(3));
        tells("too few numbers", 4, x -> x.copyStates(2));
    }

    private static void texts() {
        tells("more than there is, with a FAULT", 5, x -> x.drawer(21));
        tells("below 0, with a FAULT", 5, x -> x.drawer(-1));
        tells("a FAULT", 10, x -> x.drawer(13));
        tells("more than there is, with a FAULT", 5, x -> x.years(21));
        tells("below 0, with a FAULT", 5, x -> x.years(MIN));
        tells("a FAULT", 10, x -> x.years(20));
        tells("what", 5, x -> x.many(8));
        tells("no such LEAD, what", 2, x -> x.lead(NO_LEAD, 8));
        tells("what of one that was CUT", 5, x -> x.lead(CUT, 8));
        tells("what of no such CROSSING", 5, x -> x.crossing(99, 3));
        tells("no such CROSSING", 8, x -> x.crossing(99, 2));
        tells("no such LEAD, no such CROSSING", 2, x -> x.along(NO_LEAD, -1));
        tells("no such CROSSING of one that was CUT", 8, x -> x.along(CUT, 0));
        tells("no such LOOK", 2, x -> x.look(3));
        tells("no such LEAD and itself", 2, x -> x.between(NO_LEAD, NO_LEAD));
        tells("the second no such LEAD", 2, x -> x.between(CUT, -1));
        tells("one that was CUT and itself", 5, x -> x.between(CUT, CUT));
    }

    private static void done() {
        tells("no such LEAD, no such END", 2, x -> x.follow(NO_LEAD, 2));
        tells("no such END of one that was CUT", 5, x -> x.follow(CUT, 2));
        tells("no such END of one without CROSSINGS", 5, x -> x.follow(Scene.FREE, -1));
        tells("one that was CUT, without CROSSINGS", 9, x -> x.follow(CUT, 1));
        tells("one without CROSSINGS", 8, x -> x.follow(Scene.FREE, 1));
        tells("no such LEAD", 2, x -> x.pull(NO_LEAD));
        tells("one that was CUT", 9, x -> x.pull(CUT));
        tells("no such LEAD", 2, x -> x.cut(-1));
        tells("one that was CUT", 9, x -> x.cut(CUT));
        denies("no such LEAD", 2, x -> x.clip(NO_LEAD));
        denies("one that was CUT", 9, x -> x.clip(CUT));
        denies("no such LEAD", 2, x -> x.unclip(MIN));
        denies("one that was CUT", 9, x -> x.unclip(CUT));
        tells("no such LEADS, one and itself, no such STATE", 2, x -> x.cross(NO_LEAD, NO_LEAD, 4));
        tells("one that was CUT and itself", 5, x -> x.cross(CUT, CUT, 0));
        tells("one that was CUT, no such STATE", 5, x -> x.cross(0, CUT, 4));
        tells("one with a CLIP, no such STATE", 5, x -> x.cross(Scene.CLIPPED, 0, -1));
        tells("one that was CUT", 9, x -> x.cross(0, CUT, 0));
        tells("one with a CLIP", 9, x -> x.cross(Scene.CLIPPED, 0, 0));
        CableDrawer x = Scene.crossed();
        Check.refused("24: no such LEAD", x, x.cross(0, NO_LEAD, 4), 2);
        Check.refused("24: one and itself", x, x.cross(1, 1, 0), 5);
        Check.refused("24: no such STATE", x, x.cross(0, 1, 4), 5);
        Check.refused("24: one that was CUT", x, x.cross(CUT, 0, 0), 7);
        Check.refused("24: one with a CLIP", x, x.cross(0, Scene.CLIPPED, 0), 7);
        tells("no such seed", 5, y -> y.open(10000));
    }

    private static void hanging() {
        tells("no such LEAD", 2, x -> x.lump(NO_LEAD));
        tells("one that was CUT", 9, x -> x.lump(CUT));
        tells("what", 5, x -> x.lumps(2));
        tells("no such LEAD", 2, x -> x.comes(NO_LEAD));
        tells("one that was CUT", 9, x -> x.comes(CUT));
        tells("no such LEAD", 2, x -> x.free(NO_LEAD));
        tells("no such STATE", 5, x -> x.inState(4));
        tells("no such LEAD, no such STATE", 2, x -> x.worse(NO_LEAD, 4));
        tells("one that was CUT, no such STATE", 5, x -> x.worse(CUT, -1));
        tells("one that was CUT", 9, x -> x.worse(CUT, 0));
    }

    private static void howLong() {
        tells("no such LEAD", 2, x -> x.alone(NO_LEAD));
        tells("one that was CUT", 9, x -> x.alone(CUT));
        tells("what", 5, x -> x.way(4));
        tells("no such LEAD, below 0", 2, x -> x.follows(NO_LEAD, -1, -1));
        tells("one that was CUT, below 0", 9, x -> x.follows(CUT, -1, 0));
        tells("one that was CUT, more than it has", 9, x -> x.follows(CUT, 0, 1));
        tells("below 0", 5, x -> x.follows(0, 1, -1));
        tells("no such k", 8, x -> x.order(8));
    }

    private static void worth() {
        denies("no such LEAD, too many PENCE", 2, x -> x.fresh(NO_LEAD, 1000));
        denies("one that was CUT, too many PENCE", 9, x -> x.fresh(CUT, 1000));
        denies("too many PENCE", 5, x -> x.fresh(0, 1000));
        denies("no such LOOK", 2, x -> x.tries(3));
        denies("a LOOK of one that was CUT", 8, x -> x.tries(1));
        denies("a LOOK of one that is never USED", 9, x -> x.tries(2));
        tells("no such LOOK, no such k", 2, x -> x.nextTry(3, -1));
        tells("no such k", 8, x -> x.nextTry(2, 1));
        tells("too short a BOX", 5, x -> x.boxes(0));
        tells("too long a BOX", 5, x -> x.boxes(100));
        tells("a BOX shorter than a LEAD", 9, x -> x.boxes(29));
        tells("too many PENCE", 5, x -> x.waste(1000));
        CableDrawer y = Check.with("lead a long 9;look l a;");
        y.cut(0);
        Check.refused("none of a LOOK is IN, and none was USED", y, y.tries(0), 8);
    }

    private static void years() {
        tells("no such seed", 5, x -> x.live(10000));
        tells("what", 5, x -> x.lived(5));
        denies("no such seed", 5, x -> x.mean(-1, 1));
        denies("no such LEAD, no such seed", 2, x -> x.odds(NO_LEAD, -1, 0));
        denies("no seeds for one that was CUT", 5, x -> x.odds(CUT, 0, 0));
        CableDrawer x = Check.with("lead a long 9;");
        Check.refused("no YEARS, no such seed", x, x.live(-1), 5);
        Check.refused("no YEARS", x, x.live(9999), 8);
        Check.refused("none lived, what", x, x.lived(-1), 5);
        Check.refused("none lived", x, x.lived(4), 8);
        Check.refused("no YEARS, no such seed", x, x.mean(10000, 1), 5);
        Check.refused("no YEARS, the last seed too high", x, x.mean(9999, 2), 5);
        Check.refused("no YEARS, too many seeds", x, x.mean(0, 21), 5);
        Check.refused("no YEARS", x, x.mean(9999, 1), 8);
        Check.refused("no YEARS, no such LEAD", x, x.odds(1, 0, 1), 2);
        Check.refused("no YEARS, no seeds", x, x.odds(0, 0, 0), 5);
        Check.refused("no YEARS", x, x.odds(0, 9980, 20), 8);
    }

    /** Where nothing is there yet, or nothing is left. */
    private static void none() {
        CableDrawer x = new CableDrawer();
        Check.refused("way: what", x, x.way(-1), 5);
        Check.refused("way", x, x.way(0), 8);
        Check.refused("order", x, x.order(0), 8);
        Check.refused("loosens", x, x.loosens(), 8);
        Check.refused("clips", x, x.clips(), 8);
        Check.refused("back", x, x.back(), 8);
        CableDrawer y = Scene.allCut();
        Check.refused("worst", y, y.worst(), 8);
        Check.refused("key", y, y.key(), 8);
        Check.refused("soonest", y, y.soonest(), 8);
        CableDrawer z = Scene.marked();
        Check.refused("mark", z, z.mark(), 7);
    }

    private static void withoutStatus() {
        Check.sentence(Check.TERMS, "status(), fault(), feed(), top(), bottom() have none.");
        CableDrawer x = Scene.fed();
        x.boxes(29);
        Check.due("status() of boxes(29)", x.status(), 9);
        Check.due("status() again", x.status(), 9);
        Check.due("fault(9)", x.fault(9), CableDrawer.NONE);
        Check.due("feed() on a full tape", x.feed(0, 0, 0, 0, 0), CableDrawer.NONE);
        Check.due("fault(0)", x.fault(0), 4);
        Check.due("top() above 0", x.top() != 0, true);
        Check.due("bottom() above 0", x.bottom() > 0, true);
        Check.due("status() as it was", x.status(), 9);
        x.drawer(900);
        Check.due("status() of drawer(900)", x.status(), 10);
        Check.due("feed() on an empty tape", x.feed(0, 0, 0, 0, 0), 20);
        Check.due("status() as it was", x.status(), 10);
    }
}
