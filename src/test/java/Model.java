import java.util.ArrayList;
import java.util.Arrays;
import java.util.List;
import java.util.Set;
import java.util.TreeMap;
import java.util.regex.Matcher;
import java.util.regex.Pattern;

/**
 * The document told once more, as slowly and plainly as can be, for ModelTest: lists in place of tables,
 * every way and every order tried, YEARS as a tree. It shares no code with the program.
 */
final class Model {
    static final class Refusal extends RuntimeException {
        final int status;

        Refusal(int status) {
            super(null, null, false, false);
            this.status = status;
        }
    }

    private static final class Fault extends RuntimeException {
        final int kind;
        final int place;

        Fault(int kind, int place) {
            super(null, null, false, false);
            this.kind = kind;
            this.place = place;
        }
    }

    private static final class Lead {
        String name;
        int length;
        int stiff;
        int[] ends = {3, 3};
        int costs;
        int used;
        boolean clip;
        boolean in = true;

        int risk() {
            return Math.min(15, Math.max(0, length / 2 - stiff));
        }
    }

    private static final class Crossing {
        int over;
        int under;
        int state;

        Crossing(int over, int under, int state) {
            this.over = over;
            this.under = under;
            this.state = state;
        }

        boolean of(int lead) {
            return over == lead || under == lead;
        }

        int other(int lead) {
            return over == lead ? under : over;
        }
    }

    private static final class Look {
        String name;
        List<Integer> leads = new ArrayList<>();
    }

    private static final class Step {
        String word;
        String test;
        String compares;
        int lead;
        int number;
        List<Step> body;
    }

    private static final class State {
        List<Lead> leads = new ArrayList<>();
        List<Crossing> row = new ArrayList<>();
        List<Look> looks = new ArrayList<>();
        List<Step> years;
        int stepCount;
        int seconds;
        int pence;
        int openings;

        State copy() {
            State s = new State();
            for (Lead l : leads) {
                Lead c = new Lead();
                c.name = l.name;
                c.length = l.length;
                c.stiff = l.stiff;
                c.ends = l.ends.clone();
                c.costs = l.costs;
                c.used = l.used;
                c.clip = l.clip;
                c.in = l.in;
                s.leads.add(c);
            }
            for (Crossing c : row) {
                s.row.add(new Crossing(c.over, c.under, c.state));
            }
            s.looks.addAll(looks);
            s.years = years;
            s.stepCount = stepCount;
            s.seconds = seconds;
            s.pence = pence;
            s.openings = openings;
            return s;
        }
    }

    private static final Set<String> RESERVED = Set.of("lead", "long", "stiff", "ends", "costs", "used", "clip",
        "cross", "threaded", "tight", "knot", "look", "open", "take", "loosen", "pull", "from", "cut", "when", "lump",
        "free", "loop", "end", "stop");
    private static final int[] UNDO = {1, 3, 6, 15};

    private final long[][] trays = new long[4][];
    private final int[] sorts = new int[4];
    private final StringBuilder tape = new StringBuilder();
    private State d = new State();
    private final List<State> marks = new ArrayList<>();
    private int[] latestFault;
    private int[] latestWay;
    private List<Integer> latestOrder;
    private int latestLoosens;
    private int[] latestLived;
    long top = 0;
    long bottom = 1;

    // ---- what is shared

    private static void refuseIf(boolean holds, int status) {
        if (holds) {
            throw new Refusal(status);
        }
    }

    private void needLead(int lead) {
        refuseIf(lead < 0 || lead >= d.leads.size(), 2);
    }

    private void needIn(int lead) {
        refuseIf(!d.leads.get(lead).in, 9);
    }

    private List<Integer> inside() {
        List<Integer> list = new ArrayList<>();
        for (int i = 0; i < d.leads.size(); i++) {
            if (d.leads.get(i).in) {
                list.add(i);
            }
        }
        return list;
    }

    private static List<Crossing> of(List<Crossing> row, int lead) {
        List<Crossing> list = new ArrayList<>();
        for (Crossing c : row) {
            if (c.of(lead)) {
                list.add(c);
            }
        }
        return list;
    }

    private List<Crossing> of(int lead) {
        return of(d.row, lead);
    }

    private int tell(long a, long b) {
        long x = java.math.BigInteger.valueOf(a).gcd(java.math.BigInteger.valueOf(b)).longValueExact();
        top = a / x;
        bottom = b / x;
        return 1;
    }

    private static int set(Iterable<Integer> leads) {
        int s = 0;
        for (int l : leads) {
            s += 1 << l;
        }
        return s;
    }

    // ---- TRAYS

    int tray(int tray, int sort, int many) {
        refuseIf(tray < 0 || tray > 3 || sort < 0 || sort > 3, 1);
        refuseIf(many > 60, 5);
        refuseIf(many < 0, 6);
        trays[tray] = new long[many];
        sorts[tray] = sort;
        return 1;
    }

    private void needTray(int tray) {
        refuseIf(tray < 0 || tray > 3, 1);
    }

    private long cut(int tray, long v) {
        int bits = 8 << sorts[tray];
        return bits == 64 ? v : v << 64 - bits >> 64 - bits;
    }

    int write(int tray, int place, long v) {
        needTray(tray);
        refuseIf(trays[tray] == null, 3);
        refuseIf(place < 0 || place >= trays[tray].length, 4);
        trays[tray][place] = cut(tray, v);
        return 1;
    }

    long read(int tray, int place) {
        needTray(tray);
        refuseIf(trays[tray] == null, 3);
        refuseIf(place < 0 || place >= trays[tray].length, 4);
        return trays[tray][place];
    }

    int pour(int tray, int i, int to, int j, int many) {
        needTray(tray);
        needTray(to);
        refuseIf(trays[tray] == null || trays[to] == null, 3);
        refuseIf(sorts[tray] != sorts[to], 11);
        refuseIf(many < 0, 6);
        refuseIf(i < 0 || (long) i + many > trays[tray].length, 4);
        refuseIf(j < 0 || (long) j + many > trays[to].length, 4);
        long[] held = Arrays.copyOfRange(trays[tray], i, i + many);
        System.arraycopy(held, 0, trays[to], j, many);
        return 1;
    }

    // ---- texts

    int feed(int a, int b, int c, int e, int f) {
        if (tape.length() + 20 > 900) {
            return -1;
        }
        for (int v : new int[] {a, b, c, e, f}) {
            for (int n = 3; n >= 0; n--) {
                tape.append((char) (v >> 8 * n & 255));
            }
        }
        return tape.length();
    }

    private static final Pattern TOKEN = Pattern.compile("([a-z]+)|([0-9]+)|([;<>=])");

    private String text;
    private int at;
    private String token;
    private int tokenAt;

    /** The next TOKEN: "" at the end. */
    private void next() {
        while (at < text.length() && (text.charAt(at) == 10 || text.charAt(at) == 32)) {
            at++;
        }
        tokenAt = at;
        if (at == text.length()) {
            token = "";
            return;
        }
        Matcher m = TOKEN.matcher(text).region(at, text.length());
        if (!m.lookingAt() || m.group(2) != null && m.group(2).length() > 4) {
            throw new Fault(1, at);
        }
        token = m.group();
        at = m.end();
    }

    private Fault here(int kind) {
        return new Fault(kind, tokenAt);
    }

    private void expect(String what) {
        if (!token.equals(what)) {
            throw here(2);
        }
        next();
    }

    private boolean accept(String what) {
        if (token.equals(what)) {
            next();
            return true;
        }
        return false;
    }

    private void needName() {
        if (!token.matches("[a-z]{1,8}") || RESERVED.contains(token)) {
            throw here(2);
        }
    }

    private int number(int least, int most) {
        if (!token.matches("[0-9]+")) {
            throw here(2);
        }
        int v = Integer.parseInt(token);
        if (v < least || v > most) {
            throw here(4);
        }
        next();
        return v;
    }

    private static int named(State s, String name) {
        for (int i = 0; i < s.leads.size(); i++) {
            if (s.leads.get(i).name.equals(name)) {
                return i;
            }
        }
        return -1;
    }

    private String newName(State s) {
        needName();
        boolean taken = named(s, token) >= 0;
        for (Look k : s.looks) {
            taken |= k.name.equals(token);
        }
        if (taken) {
            throw here(3);
        }
        String name = token;
        next();
        return name;
    }

    /** The LEAD whose NAME stands; the TOKEN is not passed. */
    private int toldName(State s) {
        needName();
        int lead = named(s, token);
        if (lead < 0) {
            throw here(3);
        }
        return lead;
    }

    private State parseDrawer() {
        State s = new State();
        next();
        while (!token.isEmpty()) {
            if (token.equals("lead")) {
                parseLead(s);
            } else if (token.equals("cross")) {
                parseCross(s);
            } else if (token.equals("look")) {
                parseLook(s);
            } else {
                throw here(2);
            }
            expect(";");
        }
        return s;
    }

    private void parseLead(State s) {
        if (s.leads.size() == 8) {
            throw here(6);
        }
        next();
        Lead l = new Lead();
        l.name = newName(s);
        expect("long");
        l.length = number(1, 30);
        if (accept("stiff")) {
            l.stiff = number(0, 9);
        }
        if (accept("ends")) {
            l.ends = new int[] {number(1, 9), number(1, 9)};
        }
        if (accept("costs")) {
            l.costs = number(0, 999);
        }
        if (accept("used")) {
            l.used = number(0, 16);
        }
        l.clip = accept("clip");
        s.leads.add(l);
    }

    private void parseCross(State s) {
        if (s.row.size() == 24) {
            throw here(6);
        }
        next();
        int over = toldName(s);
        if (s.leads.get(over).clip) {
            throw here(5);
        }
        next();
        int under = toldName(s);
        if (under == over || s.leads.get(under).clip) {
            throw here(5);
        }
        next();
        int state = accept("threaded") ? 1 : accept("tight") ? 2 : accept("knot") ? 3 : 0;
        s.row.add(new Crossing(over, under, state));
    }

    private void parseLook(State s) {
        if (s.looks.size() == 3) {
            throw here(6);
        }
        next();
        Look k = new Look();
        k.name = newName(s);
        do {
            int lead = toldName(s);
            if (k.leads.contains(lead)) {
                throw here(5);
            }
            k.leads.add(lead);
            next();
        } while (!token.equals(";"));
        s.looks.add(k);
    }

    private int yearsSteps;

    private List<Step> parseSteps(int depth) {
        List<Step> list = new ArrayList<>();
        while (!token.isEmpty() && !token.equals("end")) {
            list.add(parseStep(depth));
        }
        if (depth == 0 && token.equals("end") || depth > 0 && token.isEmpty()) {
            throw here(2);
        }
        return list;
    }

    private Step parseStep(int depth) {
        Step step = new Step();
        step.word = token;
        if (!Set.of("open", "take", "loosen", "pull", "cut", "clip", "when", "loop", "stop").contains(token)) {
            throw here(2);
        }
        if (yearsSteps == 30) {
            throw here(6);
        }
        boolean nests = token.equals("when") || token.equals("loop");
        if (nests && depth == 3) {
            throw here(7);
        }
        yearsSteps++;
        next();
        switch (step.word) {
            case "open", "loop" -> step.number = number(1, 99);
            case "take", "pull", "cut", "clip" -> {
                step.lead = toldName(d);
                next();
            }
            case "when" -> parseTest(step);
            default -> { }
        }
        expect(";");
        if (nests) {
            step.body = parseSteps(depth + 1);
            expect("end");
            expect(";");
        }
        return step;
    }

    private void parseTest(Step step) {
        step.test = token;
        if (accept("free")) {
            step.lead = toldName(d);
            next();
            return;
        }
        if (!accept("lump") && !accept("cross")) {
            throw here(2);
        }
        step.compares = token;
        if (!accept("<") && !accept(">")) {
            expect("=");
        }
        step.number = number(0, step.test.equals("lump") ? 8 : 24);
    }

    private void takeText(int n) {
        text = tape.substring(0, n);
        tape.setLength(0);
        at = 0;
    }

    int drawer(int n) {
        refuseIf(n < 0 || n > tape.length(), 5);
        takeText(n);
        try {
            d = parseDrawer();
            latestFault = new int[] {0, -1};
        } catch (Fault f) {
            latestFault = new int[] {f.kind, f.place};
            throw new Refusal(10);
        }
        return d.leads.size();
    }

    int years(int n) {
        refuseIf(n < 0 || n > tape.length() || n > 300, 5);
        takeText(n);
        try {
            yearsSteps = 0;
            next();
            d.years = parseSteps(0);
            d.stepCount = yearsSteps;
            latestFault = new int[] {0, -1};
        } catch (Fault f) {
            latestFault = new int[] {f.kind, f.place};
            throw new Refusal(10);
        }
        return d.stepCount;
    }

    int fault(int what) {
        return latestFault == null || what < 0 || what > 1 ? -1 : latestFault[what];
    }

    int many(int what) {
        refuseIf(what < 0 || what > 7, 5);
        List<Integer> clips = inside();
        clips.removeIf(l -> !d.leads.get(l).clip);
        return new int[] {d.leads.size(), d.row.size(), d.looks.size(), set(inside()), set(clips), d.seconds, d.pence,
            d.openings}[what];
    }

    int lead(int lead, int what) {
        needLead(lead);
        refuseIf(what < 0 || what > 7, 5);
        Lead l = d.leads.get(lead);
        return new int[] {l.length, l.stiff, l.ends[0], l.ends[1], l.costs, l.used, of(lead).size(), l.risk()}[what];
    }

    int crossing(int k, int what) {
        refuseIf(what < 0 || what > 2, 5);
        refuseIf(k < 0 || k >= d.row.size(), 8);
        Crossing c = d.row.get(k);
        return new int[] {c.over, c.under, c.state}[what];
    }

    int along(int lead, int k) {
        needLead(lead);
        refuseIf(k < 0 || k >= of(lead).size(), 8);
        return d.row.indexOf(of(lead).get(k));
    }

    private void needLook(int look) {
        refuseIf(look < 0 || look >= d.looks.size(), 2);
    }

    int look(int look) {
        needLook(look);
        return set(d.looks.get(look).leads);
    }

    int between(int a, int b) {
        needLead(a);
        needLead(b);
        refuseIf(a == b, 5);
        return of(of(a), b).size();
    }

    int copyStates(int tray) {
        needTray(tray);
        refuseIf(trays[tray] == null, 3);
        refuseIf(trays[tray].length < d.row.size(), 4);
        for (int k = 0; k < d.row.size(); k++) {
            trays[tray][k] = d.row.get(k).state;
        }
        return d.row.size();
    }

    // ---- what is done

    private int undo(State s, Crossing c, int lead) {
        return UNDO[c.state] + s.leads.get(c.other(lead)).stiff;
    }

    private int doFollow(int lead, int end) {
        List<Crossing> mine = of(lead);
        Crossing c = mine.get(end == 0 ? 0 : mine.size() - 1);
        int spent = undo(d, c, lead);
        d.row.remove(c);
        d.seconds += spent;
        return spent;
    }

    int follow(int lead, int end) {
        needLead(lead);
        refuseIf(end != 0 && end != 1, 5);
        needIn(lead);
        refuseIf(of(lead).isEmpty(), 8);
        return doFollow(lead, end);
    }

    private static int loosenOf(State s) {
        int spent = s.row.size();
        s.row.removeIf(c -> c.state == 0);
        for (Crossing c : s.row) {
            c.state = c.state == 3 ? 3 : c.state - 1;
        }
        s.seconds += spent;
        return spent;
    }

    int loosen() {
        return loosenOf(d);
    }

    private static Set<Integer> lumpOf(State s, int lead, List<Integer> among) {
        Set<Integer> lump = new java.util.TreeSet<>();
        grow(s, lead, among, lump);
        return lump;
    }

    private static void grow(State s, int lead, List<Integer> among, Set<Integer> lump) {
        if (!among.contains(lead) || !lump.add(lead)) {
            return;
        }
        for (Crossing c : of(s.row, lead)) {
            if (c.state > 0) {
                grow(s, c.other(lead), among, lump);
            }
        }
    }

    private void doPull(int lead) {
        boolean comes = lumpOf(d, lead, inside()).size() == 1;
        List<Crossing> gone = new ArrayList<>();
        for (Crossing c : of(lead)) {
            if (comes || c.state == 0) {
                gone.add(c);
            } else {
                c.state = c.state == 1 ? 2 : 3;
            }
        }
        d.row.removeAll(gone);
        d.seconds += 2;
    }

    int pull(int lead) {
        needLead(lead);
        needIn(lead);
        int size = lumpOf(d, lead, inside()).size();
        doPull(lead);
        return size;
    }

    private int doCut(int lead) {
        int gone = of(lead).size();
        d.row.removeAll(of(lead));
        d.pence += d.leads.get(lead).costs;
        d.leads.get(lead).in = false;
        return gone;
    }

    int cut(int lead) {
        needLead(lead);
        needIn(lead);
        return doCut(lead);
    }

    private boolean clipCan(int lead) {
        return d.leads.get(lead).in && of(lead).isEmpty() && !d.leads.get(lead).clip;
    }

    private void doClip(int lead) {
        d.leads.get(lead).clip = true;
        d.seconds += 12;
    }

    int clip(int lead) {
        needLead(lead);
        refuseIf(!clipCan(lead), 9);
        doClip(lead);
        return 1;
    }

    int unclip(int lead) {
        needLead(lead);
        needIn(lead);
        refuseIf(!d.leads.get(lead).clip, 9);
        d.leads.get(lead).clip = false;
        return 1;
    }

    int cross(int over, int under, int state) {
        needLead(over);
        needLead(under);
        refuseIf(over == under || state < 0 || state > 3, 5);
        refuseIf(d.row.size() == 24, 7);
        needIn(over);
        needIn(under);
        refuseIf(d.leads.get(over).clip || d.leads.get(under).clip, 9);
        d.row.add(new Crossing(over, under, state));
        return d.row.size();
    }

    private long s;

    private int draw(int n) {
        s = (s * 2897 + 10529) % 65536;
        return (int) (s / 8 % n);
    }

    private int doOpen() {
        int came = 0;
        d.openings++;
        for (int lead = 0; lead < d.leads.size(); lead++) {
            Lead l = d.leads.get(lead);
            if (!l.in || l.clip || draw(16) >= l.risk()) {
                continue;
            }
            List<Integer> others = new ArrayList<>();
            for (int o : inside()) {
                if (o != lead && !d.leads.get(o).clip) {
                    others.add(o);
                }
            }
            if (others.isEmpty()) {
                continue;
            }
            int other = others.get(draw(others.size()));
            int hole = Math.min(9, d.leads.get(other).stiff + 2);
            if (d.row.size() < 24) {
                d.row.add(new Crossing(lead, other, Math.min(l.ends[0], l.ends[1]) < hole ? 1 : 0));
                came++;
            }
        }
        return came;
    }

    int open(int seed) {
        refuseIf(seed < 0 || seed > 9999, 5);
        s = seed;
        return doOpen();
    }

    // ---- what hangs together

    int lump(int lead) {
        needLead(lead);
        needIn(lead);
        return set(lumpOf(d, lead, inside()));
    }

    private int largest(List<Integer> among) {
        int most = 0;
        for (int lead : among) {
            most = Math.max(most, lumpOf(d, lead, among).size());
        }
        return most;
    }

    int lumps(int what) {
        refuseIf(what < 0 || what > 1, 5);
        Set<Set<Integer>> all = new java.util.HashSet<>();
        for (int lead : inside()) {
            all.add(lumpOf(d, lead, inside()));
        }
        all.removeIf(l -> l.size() < 2);
        return what == 0 ? all.size() : largest(inside());
    }

    int comes(int lead) {
        needLead(lead);
        needIn(lead);
        return of(lead).stream().allMatch(c -> c.state == 0) ? 1 : 0;
    }

    int easy() {
        List<Integer> list = inside();
        list.removeIf(l -> comes(l) == 0);
        return set(list);
    }

    int free(int lead) {
        needLead(lead);
        return d.leads.get(lead).in && of(lead).isEmpty() ? 1 : 0;
    }

    int inState(int state) {
        refuseIf(state < 0 || state > 3, 5);
        return (int) d.row.stream().filter(c -> c.state == state).count();
    }

    int worse(int lead, int state) {
        needLead(lead);
        refuseIf(state < 0 || state > 3, 5);
        needIn(lead);
        State held = d.copy();
        int before = inState(state);
        doPull(lead);
        int after = inState(state);
        d = held;
        return after - before;
    }

    int worst() {
        refuseIf(inside().isEmpty(), 8);
        int found = inside().get(0);
        for (int lead : inside()) {
            found = of(lead).size() > of(found).size() ? lead : found;
        }
        return found;
    }

    int key() {
        refuseIf(inside().isEmpty(), 8);
        TreeMap<Integer, Integer> firstBySize = new TreeMap<>();
        for (int lead : inside()) {
            List<Integer> left = inside();
            left.remove(Integer.valueOf(lead));
            firstBySize.putIfAbsent(largest(left), lead);
        }
        return firstBySize.firstEntry().getValue();
    }

    // ---- how long

    /** SECONDS, i, j, PULLED of the quickest way in this state without LOOSENING. */
    private static int[] quickest(State s, int lead) {
        List<Crossing> mine = of(s.row, lead);
        int[] best = null;
        for (int i = 0; i <= mine.size(); i++) {
            for (int j = 0; i + j <= mine.size(); j++) {
                int spent = 0;
                boolean bare = true;
                for (int n = 0; n < mine.size(); n++) {
                    Crossing c = mine.get(n);
                    if (n < i || n >= mine.size() - j) {
                        spent += UNDO[c.state] + s.leads.get(c.other(lead)).stiff;
                    } else {
                        bare &= c.state == 0;
                    }
                }
                int pulled = i + j < mine.size() ? 1 : 0;
                spent += 2 * pulled;
                if (bare && (best == null || spent < best[0])) {
                    best = new int[] {spent, i, j, pulled};
                }
            }
        }
        return best;
    }

    /** SECONDS, l, i, j, PULLED. */
    private int[] aloneWay(int lead) {
        int[] best = null;
        State held = d.copy();
        int ahead = 0;
        for (int l = 0; l <= 3; l++) {
            int[] q = quickest(held, lead);
            if (best == null || ahead + q[0] < best[0]) {
                best = new int[] {ahead + q[0], l, q[1], q[2], q[3]};
            }
            ahead += loosenOf(held);
        }
        return best;
    }

    int alone(int lead) {
        needLead(lead);
        needIn(lead);
        latestWay = aloneWay(lead);
        return latestWay[0];
    }

    int way(int what) {
        refuseIf(what < 0 || what > 3, 5);
        refuseIf(latestWay == null, 8);
        return latestWay[what + 1];
    }

    int follows(int lead, int i, int j) {
        needLead(lead);
        needIn(lead);
        List<Crossing> mine = of(lead);
        refuseIf(i < 0 || j < 0 || (long) i + j > mine.size(), 5);
        int spent = 0;
        for (int n = 0; n < mine.size(); n++) {
            spent += n < i || n >= mine.size() - j ? undo(d, mine.get(n), lead) : 0;
        }
        return spent;
    }

    private int bestAll;
    private List<Integer> bestOrder;

    /** Every order there is, in rising order of their numbers; stops where it is dearer already. */
    private void orders(State s, List<Integer> done, List<Integer> left, int spent) {
        if (spent >= bestAll) {
            return;
        }
        if (left.isEmpty()) {
            bestAll = spent;
            bestOrder = new ArrayList<>(done);
            return;
        }
        for (int lead : left) {
            State next = s.copy();
            int more = quickest(next, lead)[0];
            next.row.removeIf(c -> c.of(lead));
            List<Integer> nextDone = new ArrayList<>(done);
            nextDone.add(lead);
            List<Integer> nextLeft = new ArrayList<>(left);
            nextLeft.remove(Integer.valueOf(lead));
            orders(next, nextDone, nextLeft, spent + more);
        }
    }

    int all() {
        State held = d.copy();
        held.years = null;
        bestAll = Integer.MAX_VALUE;
        int ahead = 0;
        for (int l = 0; l <= 3; l++) {
            int before = bestAll;
            orders(held, new ArrayList<>(), inside(), ahead);
            if (bestAll < before) {
                latestLoosens = l;
            }
            ahead += loosenOf(held);
        }
        latestOrder = bestOrder;
        return bestAll;
    }

    int order(int k) {
        refuseIf(latestOrder == null || k < 0 || k >= latestOrder.size(), 8);
        return latestOrder.get(k);
    }

    int loosens() {
        refuseIf(latestOrder == null, 8);
        return latestLoosens;
    }

    int soonest() {
        refuseIf(inside().isEmpty(), 8);
        TreeMap<Integer, Integer> first = new TreeMap<>();
        for (int lead : inside()) {
            first.putIfAbsent(aloneWay(lead)[0], lead);
        }
        return first.firstEntry().getValue();
    }

    // ---- what it is worth

    int fresh(int lead, int pence) {
        needLead(lead);
        needIn(lead);
        refuseIf(pence < 0 || pence > 999, 5);
        return tell((long) aloneWay(lead)[0] * pence - 60L * d.leads.get(lead).costs, 60);
    }

    private int crossable() {
        return (int) inside().stream().filter(l -> !d.leads.get(l).clip).count();
    }

    private int growth() {
        int sum = 0;
        for (int l : inside()) {
            sum += d.leads.get(l).clip ? 0 : d.leads.get(l).risk();
        }
        return crossable() < 2 ? 0 : sum;
    }

    int grows() {
        return tell(growth(), 16);
    }

    int clips() {
        for (int n = 1; n <= 999; n++) {
            if (n * growth() / 16.0 * 5 > 12 * crossable()) {
                return n;
            }
        }
        throw new Refusal(8);
    }

    private List<Integer> tryOrder(int look) {
        List<Integer> list = inside();
        list.retainAll(d.looks.get(look).leads);
        list.sort((a, b) -> d.leads.get(b).used - d.leads.get(a).used);
        return list;
    }

    int tries(int look) {
        needLook(look);
        List<Integer> list = tryOrder(look);
        refuseIf(list.isEmpty(), 8);
        int used = 0;
        int sum = 0;
        for (int k = 0; k < list.size(); k++) {
            used += d.leads.get(list.get(k)).used;
            sum += (k + 1) * d.leads.get(list.get(k)).used;
        }
        refuseIf(used == 0, 9);
        return tell(sum, used);
    }

    int nextTry(int look, int k) {
        needLook(look);
        List<Integer> list = tryOrder(look);
        refuseIf(k < 0 || k >= list.size(), 8);
        return list.get(k);
    }

    /** Puts one LEAD after the other into every box that has room, and into a new one. */
    private int pack(List<Integer> lengths, int n, int[] left, int used, int room) {
        if (n == lengths.size()) {
            return used;
        }
        int best = 99;
        for (int b = 0; b <= used; b++) {
            if (left[b] >= lengths.get(n)) {
                left[b] -= lengths.get(n);
                best = Math.min(best, pack(lengths, n + 1, left, Math.max(used, b + 1), room));
                left[b] += lengths.get(n);
            }
        }
        return best;
    }

    int boxes(int room) {
        refuseIf(room < 1 || room > 99, 5);
        List<Integer> lengths = new ArrayList<>();
        for (int l : inside()) {
            refuseIf(d.leads.get(l).length > room, 9);
            lengths.add(d.leads.get(l).length);
        }
        int[] left = new int[9];
        Arrays.fill(left, room);
        return pack(lengths, 0, left, 0, room);
    }

    int waste(int pence) {
        refuseIf(pence < 0 || pence > 999, 5);
        List<Integer> list = inside();
        list.removeIf(l -> d.leads.get(l).costs * d.leads.get(l).used / 16.0 >= pence * of(l).size());
        return set(list);
    }

    // ---- YEARS

    private static final class Over extends RuntimeException {
        Over() {
            super(null, null, false, false);
        }
    }

    private int done;
    private int[] counts;

    private void run(List<Step> steps) {
        for (Step step : steps) {
            if (done == 300) {
                counts[4] = 1;
                throw new Over();
            }
            done++;
            run(step);
        }
    }

    private void run(Step step) {
        switch (step.word) {
            case "open" -> {
                for (int n = 0; n < step.number; n++) {
                    counts[1]++;
                    counts[2] += doOpen();
                }
            }
            case "loosen" -> loosenOf(d);
            case "stop" -> throw new Over();
            case "loop" -> {
                for (int n = 0; n < step.number; n++) {
                    run(step.body);
                }
            }
            case "when" -> {
                if (test(step)) {
                    run(step.body);
                }
            }
            default -> runOn(step);
        }
    }

    private boolean test(Step step) {
        if (step.test.equals("free")) {
            return free(step.lead) == 1;
        }
        int v = step.test.equals("lump") ? largest(inside()) : d.row.size();
        return step.compares.equals("<") ? v < step.number : step.compares.equals(">") ? v > step.number
            : v == step.number;
    }

    private void runOn(Step step) {
        int lead = step.lead;
        if (!d.leads.get(lead).in || step.word.equals("clip") && !clipCan(lead)) {
            counts[0]++;
            return;
        }
        switch (step.word) {
            case "pull" -> doPull(lead);
            case "cut" -> doCut(lead);
            case "clip" -> doClip(lead);
            default -> {
                counts[3]++;
                int[] w = aloneWay(lead);
                int before = d.seconds;
                for (int n = 0; n < w[1]; n++) {
                    loosenOf(d);
                }
                for (int n = 0; n < w[2]; n++) {
                    doFollow(lead, 0);
                }
                for (int n = 0; n < w[3]; n++) {
                    doFollow(lead, 1);
                }
                if (w[4] == 1) {
                    doPull(lead);
                }
                if (d.seconds - before != w[0] || free(lead) != 1) {
                    throw new IllegalStateException("the model's way is not as it was told");
                }
            }
        }
    }

    private void runYears(int seed) {
        done = 0;
        counts = new int[5];
        s = seed;
        try {
            run(d.years);
        } catch (Over over) {
            // the YEARS are over ahead of their end
        }
    }

    int live(int seed) {
        refuseIf(seed < 0 || seed > 9999, 5);
        refuseIf(d.years == null, 8);
        runYears(seed);
        latestLived = counts;
        return done;
    }

    int lived(int what) {
        refuseIf(what < 0 || what > 4, 5);
        refuseIf(latestLived == null, 8);
        return latestLived[what];
    }

    private void needSeeds(int seed, int many) {
        refuseIf(seed < 0 || seed > 9999 || many < 1 || many > 20 || seed + many - 1 > 9999, 5);
        refuseIf(d.years == null, 8);
    }

    int mean(int seed, int many) {
        needSeeds(seed, many);
        long sum = 0;
        State held = d;
        for (int n = 0; n < many; n++) {
            d = held.copy();
            d.seconds = 0;
            runYears(seed + n);
            sum += d.seconds;
        }
        d = held;
        return tell(sum, many);
    }

    int odds(int lead, int seed, int many) {
        needLead(lead);
        needSeeds(seed, many);
        long sum = 0;
        State held = d;
        for (int n = 0; n < many; n++) {
            d = held.copy();
            runYears(seed + n);
            sum += free(lead);
        }
        d = held;
        return tell(sum, many);
    }

    // ---- MARKS

    int mark() {
        refuseIf(marks.size() == 3, 7);
        marks.add(d.copy());
        return marks.size();
    }

    int back() {
        refuseIf(marks.isEmpty(), 8);
        d = marks.remove(marks.size() - 1);
        return marks.size();
    }
}
