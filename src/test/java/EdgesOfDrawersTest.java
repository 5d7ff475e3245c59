import java.util.HashSet;
import java.util.Set;

/** The grammar and the FAULTS of a DRAWER, and promises 9, 10, 12, sentence by sentence. */
public final class EdgesOfDrawersTest {
    private static final String TWO = "lead a long 9;lead b long 9;";
    private static final String CLIPPED = TWO + "lead c long 9 clip;";

    public static void main(String[] args) {
        feed();
        feedFull();
        textOf900();
        firstBytes();
        tapeAndNumber();
        blanks();
        tokensAsLongAsTheyGo();
        firstByteOfATextAndOfAToken();
        numbersOfDigits();
        names();
        oneNameOneThing();
        partsInOrder();
        leads();
        numbersOfLeads();
        crossings();
        looks();
        toldAhead();
        faultThatComesFirst();
        faultTwo();
        faultFive();
        faultSix();
        taken();
        refusals();
        fault();
        Check.finish();
    }

    private static void good(String text, int leads) {
        CableDrawer x = new CableDrawer();
        Check.answers("drawer of " + text, x, Check.drawer(x, text), leads);
        Check.due("fault(0) of " + text, x.fault(0), 0);
        Check.due("fault(1) of " + text, x.fault(1), -1);
    }

    private static void fails(String text, int kind, int place) {
        CableDrawer x = new CableDrawer();
        Check.refused("drawer of " + text, x, Check.drawer(x, text), 10);
        Check.due("fault(0) of " + text, x.fault(0), kind);
        Check.due("fault(1) of " + text, x.fault(1), place);
    }

    private static void feed() {
        Check.sentence(9, "Twenty bytes come behind those on the tape, the highest of each int first: how many it has");
        CableDrawer x = new CableDrawer();
        // "lead", " abc", "d lo", "ng 2", "9 ; "
        Check.due("the first twenty", x.feed(0x6c656164, 0x20616263, 0x64206c6f, 0x6e672032, 0x39203b20), 20);
        // "lead", " e l", "ong ", "3;\nl", "ook "
        Check.due("behind those", x.feed(0x6c656164, 0x2065206c, 0x6f6e6720, 0x333b0a6c, 0x6f6f6b20), 40);
        // "q e ", "abcd", ";", and then blanks
        Check.due("behind those", x.feed(0x71206520, 0x61626364, 0x3b202020, 0x20202020, 0x20202020), 60);
        Check.answers("drawer(60)", x, x.drawer(60), 2);
        Check.due("LONG of the first", x.lead(0, 0), 29);
        Check.due("LONG of the second", x.lead(1, 0), 3);
        Check.due("look(0)", x.look(0), 3);
        // a highest byte above 127, and one of 255
        for (int high : new int[] {0x80202020, 0xff202020, 0x7f202020}) {
            x.feed(0x20202020, high, 0x20202020, 0x20202020, 0x20202020);
            Check.refused("a byte that begins no TOKEN", x, x.drawer(20), 10);
            Check.due("fault(0)", x.fault(0), 1);
            Check.due("fault(1)", x.fault(1), 4);
        }
    }

    private static void feedFull() {
        Check.sentence(9, "NONE if there would be more than 900.");
        CableDrawer x = new CableDrawer();
        for (int n = 1; n <= 45; n++) {
            Check.due("feed " + n, x.feed(0x20202020, 0x20202020, 0x20202020, 0x20202020, 0x20202020), 20 * n);
        }
        Check.due("920", x.feed(0x3f3f3f3f, 0, 0, 0, 0), -1);
        Check.due("920 again", x.feed(0x3f3f3f3f, 0, 0, 0, 0), -1);
        Check.answers("all 900 are as they were", x, x.drawer(900), 0);
        Check.due("the tape is empty then", x.feed(0, 0, 0, 0, 0), 20);
        CableDrawer full = Scene.fed();
        Check.due("920 behind much else", full.feed(1, 2, 3, 4, 5), -1);
        Check.due("what it leaves as it was", Scene.difference(full, Scene.fed()).isEmpty(), true);
    }

    private static void textOf900() {
        Check.sentence(Check.TERMS, "A DRAWER is a TEXT of at most 900 bytes.");
        String text = " ".repeat(886) + "lead a long 9;";
        good(text, 1);
        CableDrawer x = new CableDrawer();
        Check.feed(x, text);
        Check.refused("drawer(901)", x, x.drawer(901), 5);
        Check.refused("drawer(899)", x, x.drawer(899), 10);
        Check.due("fault(0)", x.fault(0), 2);
        Check.due("fault(1)", x.fault(1), 899);
        Check.answers("of no bytes", x, x.drawer(0), 0);
    }

    private static void firstBytes() {
        Check.sentence(10, "The first n bytes of the tape");
        String text = TWO + "cross a b tight; look l a b;    ";
        int[] ends = {0, 14, 28, 44, 56};
        for (int part = 0; part < ends.length; part++) {
            CableDrawer x = new CableDrawer();
            Check.feed(x, text);
            Check.answers("drawer(" + ends[part] + ")", x, x.drawer(ends[part]), Math.min(part, 2));
            Check.due("LEADS", x.many(0), Math.min(part, 2));
            Check.due("CROSSINGS", x.many(1), part > 2 ? 1 : 0);
            Check.due("LOOKS", x.many(2), part > 3 ? 1 : 0);
        }
        // a TOKEN ends where the text does
        CableDrawer cut = new CableDrawer();
        Check.feed(cut, "lead a long 12;look b a;");
        Check.refused("drawer(13)", cut, cut.drawer(13), 10);
        Check.due("fault(0): LONG is 1, and no ; stands there", cut.fault(0), 2);
        Check.due("fault(1)", cut.fault(1), 13);
    }

    private static void tapeAndNumber() {
        Check.sentence(10, "The first n bytes of the tape (which is empty then, but for 5) are the DRAWER: how many LEADS (5; 10: the old one stays).");
        CableDrawer x = new CableDrawer();
        Check.feed(x, TWO);
        Check.refused("-1", x, x.drawer(-1), 5);
        Check.refused("the least", x, x.drawer(Integer.MIN_VALUE), 5);
        Check.refused("one more than the tape has", x, x.drawer(41), 5);
        Check.refused("the most", x, x.drawer(Integer.MAX_VALUE), 5);
        Check.due("fault() is of none of these", x.fault(0), -1);
        Check.answers("the tape is as it was with 5: all of it", x, x.drawer(40), 2);
        Check.refused("the tape is empty then", x, x.drawer(1), 5);
        Check.feed(x, "lead z 7;");
        Check.refused("a FAULT", x, x.drawer(9), 10);
        Check.refused("the tape is empty then, too", x, x.drawer(1), 5);
        Check.answers("the old one stays", x, x.many(0), 2);
        Check.feed(x, TWO);
        Check.answers("no bytes are a DRAWER", x, x.drawer(0), 0);
        Check.refused("the tape is empty then, too", x, x.drawer(1), 5);
    }

    private static void blanks() {
        Check.sentence(Check.TERMS, "TOKENS, as long as they go, between them blanks (10, 32)");
        good("\n lead\na\n\n long \n 9 \n;\n", 1);
        good(" ", 0);
        good("\n", 0);
        for (int c : new int[] {0, 9, 11, 12, 13, 31, 33, 127, 128, 160, 255}) {
            fails("lead" + (char) c + "a long 9;", 1, 4);
            fails("lead a long 9;" + (char) c, 1, 14);
        }
    }

    private static void tokensAsLongAsTheyGo() {
        Check.sentence(Check.TERMS, "TOKENS, as long as they go");
        CableDrawer x = Check.with("lead a long30stiff2ends4 6costs77used16clip;lead b long1;look l a b;");
        int[] due = {30, 2, 4, 6, 77, 16};
        for (int what = 0; what < due.length; what++) {
            Check.due("lead(0, " + what + ")", x.lead(0, what), due[what]);
        }
        Check.due("a CLIP", x.many(4), 1);
        Check.due("LONG of b", x.lead(1, 0), 1);
        fails("leada long 9;", 2, 0);
        fails("lead along 9;", 2, 11);
        fails("lead a longs 9;", 2, 7);
        fails("lead a lon 9;", 2, 7);
        fails("lead a long 9 clipp;", 2, 14);
        fails("lead a1 long 9;", 2, 6);
        fails("lead a long 9ends46;", 4, 17);
        fails("lead a long 9;;", 2, 14);
    }

    private static boolean isAny(int c) {
        return c >= 'a' && c <= 'z' || c >= '0' && c <= '9' || c == ';' || c == '<' || c == '>' || c == '=';
    }

    private static void firstByteOfATextAndOfAToken() {
        Check.sentence(Check.TERMS, "WORDS (small letters), NUMBERS (1 to 4 digits), SIGNS ; < > =");
        Check.sentence(Check.TERMS, "1 no TOKEN begins so");
        for (int c = 0; c < 256; c++) {
            if (c != 10 && c != 32) {
                fails("" + (char) c, isAny(c) ? 2 : 1, 0);
                fails(TWO + " " + (char) c, isAny(c) ? 2 : 1, TWO.length() + 1);
                boolean longer = c >= '0' && c <= '9';
                fails("lead a long 9" + (c == ';' ? "<" : "" + (char) c), longer ? 4 : isAny(c) ? 2 : 1, longer ? 12 : 13);
            }
        }
        // wherever the TOKEN stands
        for (String ahead : new String[] {"lead ", "lead a ", "lead a long ", "lead a long 9 ", "lead a long 9 stiff ", "lead a long 9 ends ",
            "lead a long 9 ends 1 ", "lead a long 9 costs ", "lead a long 9 used ", "lead a long 9 clip ", TWO + "cross ", TWO + "cross a ",
            TWO + "cross a b ", TWO + "cross a b knot ", TWO + "look ", TWO + "look l ", TWO + "look l a ", TWO + "look l a b "}) {
            fails(ahead + "A", 1, ahead.length());
            fails(ahead + ":", 1, ahead.length());
            fails(ahead + "10000", 1, ahead.length());
        }
    }

    private static void numbersOfDigits() {
        Check.sentence(Check.TERMS, "(a NUMBER of 5 digits and more: at its first)");
        good("lead a long 0030 stiff 0009 ends 0001 0009 costs 0999 used 0016;", 1);
        good("lead a long 030 stiff 09;", 1);
        fails("lead a long 00030;", 1, 12);
        fails("lead a long 0030 stiff 00009;", 1, 23);
        fails("lead a long 12345678901234567890;", 1, 12);
        fails("lead a long 9999;", 4, 12);
        fails("lead a long 10000;", 1, 12);
        fails("10000", 1, 0);
        fails("9999", 2, 0);
    }

    private static void names() {
        Check.sentence(Check.TERMS, "NAME: a WORD of 1 to 8 letters that is none of lead, long, stiff, ends, costs, used, clip, "
            + "cross, threaded, tight, knot, look, open, take, loosen, pull, from, cut, when, lump, free, loop, end, stop.");
        good("lead a long 9;lead abcdefgh long 9;lead zzzzzzzz long 9;lead z long 9;look abcdefgg a z abcdefgh zzzzzzzz;cross abcdefgh zzzzzzzz;", 4);
        String none = "lead long stiff ends costs used clip cross threaded tight knot look open take loosen pull from cut when lump free "
            + "loop end stop";
        for (String word : none.split(" ")) {
            fails("lead " + word + " long 9;", 2, 5);
            fails(TWO + "look " + word + " a;", 2, 33);
            fails(TWO + "look l " + word + ";", 2, 35);
            fails(TWO + "look l a " + word + ";", 2, 37);
            fails(TWO + "cross " + word + " a;", 2, 34);
            fails(TWO + "cross a " + word + ";", 2, 36);
            String part = word.substring(0, Math.min(word.length(), 7));
            good("lead " + part + "z long 9;", 1);
            good("lead z" + part + " long 9;", 1);
        }
        for (String word : new String[] {"lea", "lon", "en", "sto", "threade", "loos", "loose", "ong", "to", "no"}) {
            good("lead " + word + " long 9;", 1);
        }
        Check.sentence(Check.TERMS, "a WORD of 9 letters and more where a NAME must stand");
        fails("lead abcdefghi long 9;", 2, 5);
        fails(TWO + "look abcdefghi a;", 2, 33);
        fails(TWO + "look l abcdefghi;", 2, 35);
        fails(TWO + "look l a abcdefghi;", 2, 37);
        fails(TWO + "cross abcdefghi a;", 2, 34);
        fails(TWO + "cross a abcdefghi;", 2, 36);
        fails("lead abcdefghijklmnopqrstuvwxyz long 9;", 2, 5);
        Check.sentence(Check.TERMS, "a NAME that is no LEAD told ahead");
        fails("lead abcdefgh long 9;lead b long 9;cross b abcdefgi;", 3, 43);
        fails("lead abcdefgh long 9;lead b long 9;cross b abcdefg;", 3, 43);
        // the farthest NAMES of 8 letters are told from one another
        CableDrawer x = Check.with("lead zzzzzzzz long 1;lead zzzzzzzy long 2;lead yzzzzzzz long 3;lead z long 4;look l yzzzzzzz z;");
        Check.due("look(0)", x.look(0), 12);
    }

    private static void oneNameOneThing() {
        Check.sentence(Check.TERMS, "One NAME is of one thing alone.");
        Check.sentence(Check.TERMS, "3 a new NAME that is taken");
        fails("lead a long 9;lead a long 9;", 3, 19);
        fails(TWO + "lead a long 9;", 3, 33);
        fails(TWO + "lead b long 9;", 3, 33);
        fails(TWO + "look a b;", 3, 33);
        fails(TWO + "look l a;look l b;", 3, 42);
        fails(TWO + "look l a;look m a;look l b;", 3, 51);
        fails(TWO + "look l a;look m a;look m b;", 3, 51);
        fails(TWO + "look l a;lead l long 9;", 3, 42);
        fails(TWO + "look l a;look m a;look n a;lead n long 9;", 3, 60);
        good(TWO + "look l a;look m a;look n a;lead o long 9;", 3);
        CableDrawer x = Check.with(TWO + "look l a;");
        Check.answers("a DRAWER of its own has its NAMES free again", x, Check.drawer(x, "lead l long 9;lead b long 9;look a b;"), 2);
    }

    private static void partsInOrder() {
        Check.sentence(Check.TERMS, "PART: lead NAME long NUMBER [stiff NUMBER] [ends NUMBER NUMBER] [costs NUMBER] [used NUMBER] [clip] ;");
        String[] parts = {" stiff 2", " ends 4 5", " costs 6", " used 7", " clip"};
        for (int set = 0; set < 32; set++) {
            StringBuilder text = new StringBuilder("lead a long 9");
            for (int part = 0; part < 5; part++) {
                text.append((set >> part & 1) == 1 ? parts[part] : "");
            }
            CableDrawer x = Check.with(text + ";");
            Check.due("STIFF of " + text, x.lead(0, 1), (set & 1) * 2);
            Check.due("END 0 of " + text, x.lead(0, 2), (set & 2) > 0 ? 4 : 3);
            Check.due("END 1 of " + text, x.lead(0, 3), (set & 2) > 0 ? 5 : 3);
            Check.due("COSTS of " + text, x.lead(0, 4), (set & 4) > 0 ? 6 : 0);
            Check.due("USED of " + text, x.lead(0, 5), (set & 8) > 0 ? 7 : 0);
            Check.due("CLIP of " + text, x.many(4), (set & 16) > 0 ? 1 : 0);
        }
        for (int first = 0; first < 5; first++) {
            for (int second = 0; second <= first; second++) {
                String ahead = "lead a long 9" + parts[first] + " ";
                fails(ahead + parts[second].substring(1) + ";", 2, ahead.length());
            }
        }
        fails("lead a stiff 2 long 9;", 2, 7);
        fails("lead long 9;", 2, 5);
        fails("lead a long;", 2, 11);
        fails("lead a long 9 9;", 2, 14);
        fails("lead a long 9 stiff;", 2, 19);
        fails("lead a long 9 ends 3;", 2, 20);
        fails("lead a long 9 ends 3 clip;", 2, 21);
        fails("lead a long 9 costs used 3;", 2, 20);
        fails("lead a long 9 clip 3;", 2, 19);
        fails("lead a long 9 lead b long 9;", 2, 14);
        fails("lead a long 9 tight;", 2, 14);
        Check.sentence(Check.TERMS, "or cross NAME NAME [STATE] ;");
        fails(TWO + "cross a;", 2, 35);
        fails(TWO + "cross;", 2, 33);
        fails(TWO + "cross a b b;", 2, 38);
        fails(TWO + "cross a b tight knot;", 2, 44);
        fails(TWO + "cross a b loose;", 2, 38);
        fails(TWO + "cross a b 2;", 2, 38);
        fails(TWO + "cross a b", 2, 37);
        Check.sentence(Check.TERMS, "or look NAME NAME {NAME} ;");
        fails(TWO + "look;", 2, 32);
        fails(TWO + "look l;", 2, 34);
        fails(TWO + "look l a 2;", 2, 37);
        fails(TWO + "look l a <", 2, 37);
        Check.sentence(Check.TERMS, "DRAWER: {PART}.");
        Check.sentence(Check.TERMS, "({ } any number of times, [ ] perhaps.)");
        good("", 0);
        for (String word : "long stiff ends costs used clip threaded tight knot open take loosen pull from cut when lump free loop end stop a".split(" ")) {
            fails(word + " a long 9;", 2, 0);
            fails(TWO + word + ";", 2, 28);
        }
        for (char sign : ";<>=".toCharArray()) {
            fails(TWO + sign, 2, 28);
        }
    }

    private static void leads() {
        Check.sentence(Check.TERMS, "LEADS, at most 8");
        StringBuilder text = new StringBuilder();
        for (int n = 1; n <= 8; n++) {
            text.append("lead ").append((char) ('a' + n)).append(" long ").append(n).append(';');
            good(text.toString(), n);
        }
        Check.sentence(Check.TERMS, "6 a ninth lead, a 25th cross, a fourth look (at that WORD).");
        fails(text + "lead z long 9;", 6, text.length());
        fails(text + "look l b; lead z long 9;", 6, text.length() + 10);
        Check.sentence(Check.TERMS, "All are numbered as they stand");
        CableDrawer x = Check.with(text.toString());
        for (int lead = 0; lead < 8; lead++) {
            Check.due("LONG of " + lead, x.lead(lead, 0), lead + 1);
        }
        Check.refused("a ninth", x, x.lead(8, 0), 2);
    }

    private static void number(String part, int least, int most, int what) {
        for (int v : new int[] {least, most}) {
            CableDrawer x = Check.with("lead a " + part.replace("#", "" + v) + ";");
            Check.due(part + " of " + v, x.lead(0, what), v);
        }
        int place = 7 + part.indexOf('#');
        if (least > 0) {
            fails("lead a " + part.replace("#", "" + (least - 1)) + ";", 4, place);
        }
        fails("lead a " + part.replace("#", "" + (most + 1)) + ";", 4, place);
        fails("lead a " + part.replace("#", "9999") + ";", 4, place);
    }

    private static void numbersOfLeads() {
        Check.sentence(Check.TERMS, "4 a NUMBER that can't be.");
        Check.sentence(Check.TERMS, "LONG (1 to 30), STIFF (0 to 9; 0 without), two ENDS, each so large (1 to 9; 3 without), "
            + "COSTS of a new one (0 to 999; 0 without), USED in so many sixteenths of all openings (0 to 16; 0 without), with a CLIP or not.");
        number("long #", 1, 30, 0);
        number("long 9 stiff #", 0, 9, 1);
        number("long 9 ends # 9", 1, 9, 2);
        number("long 9 ends 1 #", 1, 9, 3);
        number("long 9 costs #", 0, 999, 4);
        number("long 9 used #", 0, 16, 5);
        Check.due("with a CLIP, or not", Check.with("lead a long 9;lead b long 9 clip;").many(4), 2);
    }

    private static void crossings() {
        Check.sentence(Check.TERMS, "CROSSINGS, at most 24: a LEAD over another one; LOOSE without a STATE.");
        StringBuilder text = new StringBuilder(TWO);
        for (int n = 0; n < 23; n++) {
            text.append(n % 2 == 0 ? "cross a b;" : "cross b a knot;");
        }
        Check.due("23", Check.with(text.toString()).many(1), 23);
        text.append("cross b a tight;");
        CableDrawer x = Check.with(text.toString());
        Check.due("24", x.many(1), 24);
        Check.due("the last one, over", x.crossing(23, 0), 1);
        Check.due("the last one, under", x.crossing(23, 1), 0);
        Check.due("the last one, STATE", x.crossing(23, 2), 2);
        Check.sentence(Check.TERMS, "6 a ninth lead, a 25th cross, a fourth look (at that WORD).");
        fails(text + "cross a b;", 6, text.length());
        fails(text + " cross", 6, text.length() + 1);
        Check.sentence(Check.TERMS, "STATE: threaded, or tight, or knot.");
        Check.sentence(Check.TERMS, "STATE: 0 LOOSE, 1 THREADED, 2 TIGHT, 3 KNOT.");
        CableDrawer y = Check.with(TWO + "cross a b knot;cross a b;cross b a tight;cross a b threaded;");
        Check.row(y, 0, 1, 3, 0, 1, 0, 1, 0, 2, 0, 1, 1);
        Check.sentence(Check.TERMS, "CROSSINGS stand in a row as they came.");
        Check.answers("another one", y, y.cross(1, 0, 1), 5);
        Check.row(y, 0, 1, 3, 0, 1, 0, 1, 0, 2, 0, 1, 1, 1, 0, 1);
    }

    private static void looks() {
        Check.sentence(Check.TERMS, "LOOKS, at most 3: a NAME of its own, then LEADS that look alike (each once; a LEAD may be of several LOOKS).");
        String three = TWO + "look l a;look m b a;look n a b;";
        CableDrawer x = Check.with(three);
        Check.due("LOOKS", x.many(2), 3);
        Check.due("look(0)", x.look(0), 1);
        Check.due("look(1)", x.look(1), 3);
        Check.due("look(2)", x.look(2), 3);
        Check.sentence(Check.TERMS, "6 a ninth lead, a 25th cross, a fourth look (at that WORD).");
        fails(three + "look o a;", 6, three.length());
        fails(three + "cross a b; look a", 6, three.length() + 11);
        Check.sentence(Check.TERMS, "or look NAME NAME {NAME} ;");
        String eight = Check.leads(8, "long 9");
        Check.due("all of eight", Check.with(eight + "look l h a g b f c e d;").look(0), 255);
        fails(eight + "look l h a g b f c e d a;", 5, eight.length() + 23);
        fails(eight + "look l h a g b f c e d d;", 5, eight.length() + 23);
        fails(eight + "look l h a g b f c e d z;", 3, eight.length() + 23);
        fails(eight + "look l h a g b f c e d", 2, eight.length() + 22);
    }

    private static void toldAhead() {
        Check.sentence(Check.TERMS, "what a PART names must be told ahead.");
        fails("lead a long 9;cross a b;lead b long 9;", 3, 22);
        fails("lead a long 9;cross b a;lead b long 9;", 3, 20);
        fails("look l a;lead a long 9;", 3, 7);
        fails(TWO + "look l a c;lead c long 9;", 3, 37);
        fails(TWO + "look l a;cross l a;", 3, 43);
        fails(TWO + "look l a;cross a l;", 3, 45);
        fails(TWO + "look l a;look m l;", 3, 44);
        fails(TWO + "look l l;", 3, 35);
        good("lead a long 9;look l a;lead b long 9;cross b a;look m b;", 2);
        // the NAMES of a DRAWER that was told ahead are none of this one
        String[] texts = {"lead a long 9;cross a b;", "lead a long 9;look m b;", "lead a long 9;look m l;", "look m a;"};
        int[] places = {22, 21, 21, 7};
        for (int i = 0; i < texts.length; i++) {
            CableDrawer x = Check.with(TWO + "look l a;");
            Check.refused("drawer of " + texts[i], x, Check.drawer(x, texts[i]), 10);
            Check.due("fault(0) of " + texts[i], x.fault(0), 3);
            Check.due("fault(1) of " + texts[i], x.fault(1), places[i]);
            Check.refused("once more", x, Check.drawer(x, texts[i]), 10);
            Check.due("fault(1) of " + texts[i], x.fault(1), places[i]);
            Check.answers("NAMES that were taken there", x, Check.drawer(x, "lead l long 9;lead q long 9;look a q;look b l;"), 2);
        }
    }

    private static void faultThatComesFirst() {
        Check.sentence(Check.TERMS, "FAULTS, the first along the text (of one TOKEN the least kind)");
        fails("lead a long 0 !", 4, 12);
        fails("lead a long 9 stiff 10;lead a long 9;", 4, 20);
        fails("lead a long 9;lead a long 99;", 3, 19);
        fails("lead a long 9;lead a!", 3, 19);
        fails("lead a long 31 ends 0 0;", 4, 12);
        // a NUMBER of five digits that stands wrong and can't be, too, is no TOKEN
        fails("lead a long 9 99999;", 1, 14);
        fails("lead 99999", 1, 5);
        fails("lead a 99999", 1, 7);
        // a NUMBER that can't be where none can stand
        fails("lead a 9999", 2, 7);
        // a WORD of nine letters is not looked for among the NAMES
        fails(TWO + "cross aaaaaaaaa a;", 2, 34);
        // a NAME that is no LEAD can't be one with a CLIP
        fails(CLIPPED + "look l a;cross l c;", 3, CLIPPED.length() + 15);
        // the ninth lead ahead of what is wrong with it
        String eight = Check.leads(8, "long 9");
        fails(eight + "lead a long 0 ?", 6, eight.length());
        fails(eight + "lead", 6, eight.length());
    }

    private static void faultTwo() {
        Check.sentence(Check.TERMS, "2 it can't stand there (the end: the text's length;");
        String text = "lead a long 9 stiff 1 ends 2 3 costs 4 used 5 clip;";
        Set<Integer> done = new HashSet<>();
        for (int n = 1; n < text.length(); n++) {
            boolean number = Character.isDigit(text.charAt(n - 1));
            boolean word = Character.isLetter(text.charAt(n - 1)) && Character.isLetter(text.charAt(n));
            if (!word && !(number && Character.isDigit(text.charAt(n)))) {
                fails(text.substring(0, n), 2, n);
                fails(text.substring(0, n) + " \n ", 2, n + 3);
                done.add(n);
            }
        }
        Check.due("ends behind each TOKEN", done.size() >= 15, true);
        fails(TWO + "cross", 2, 33);
        fails(TWO + "cross a", 2, 35);
        fails(TWO + "cross a b", 2, 37);
        fails(TWO + "cross a b tight ", 2, 44);
        fails(TWO + "look", 2, 32);
        fails(TWO + "look l", 2, 34);
        fails(TWO + "look l a ", 2, 37);
        fails(TWO + "look l a b  ", 2, 40);
    }

    private static void faultFive() {
        Check.sentence(Check.TERMS, "5 a LEAD across itself (at the second NAME)");
        fails(TWO + "cross a a;", 5, 36);
        fails(TWO + "cross b  b;", 5, 37);
        Check.sentence(Check.TERMS, "a LEAD twice in a LOOK (at its NAME)");
        fails(TWO + "look l a a;", 5, 37);
        fails(TWO + "look l a b a;", 5, 39);
        fails(TWO + "look l a b b", 5, 39);
        Check.sentence(Check.TERMS, "a CROSSING of a LEAD with a CLIP (at that NAME)");
        fails(CLIPPED + "cross c a;", 5, CLIPPED.length() + 6);
        fails(CLIPPED + "cross a c;", 5, CLIPPED.length() + 8);
        fails(CLIPPED + "cross c c;", 5, CLIPPED.length() + 6);
        fails(CLIPPED + "cross c z;", 5, CLIPPED.length() + 6);
        good(CLIPPED + "cross a b;look l c;", 3);
        good("lead h long 9 clip;" + TWO + "cross a b;", 3);
        fails("lead h long 9 clip;" + TWO + "cross a h;", 5, 55);
    }

    private static void faultSix() {
        Check.sentence(Check.TERMS, "6 a ninth lead, a 25th cross, a fourth look (at that WORD).");
        // each number for itself: eight LEADS, 24 CROSSINGS and three LOOKS at once
        StringBuilder text = new StringBuilder(Check.leads(8, "long 9"));
        text.append("look i a;look j b;look k a b c d e f g h;");
        for (int n = 0; n < 24; n++) {
            text.append("cross a ").append((char) ('b' + n % 7)).append(";");
        }
        CableDrawer x = Check.with(text.toString());
        Check.due("LEADS", x.many(0), 8);
        Check.due("CROSSINGS", x.many(1), 24);
        Check.due("LOOKS", x.many(2), 3);
        fails(text + "lead", 6, text.length());
        fails(text + "cross", 6, text.length());
        fails(text + "look", 6, text.length());
        fails(text + "end", 2, text.length());
    }

    /** Scene's full one with an empty tape, by YEARS with a FAULT. */
    private static CableDrawer emptied() {
        CableDrawer x = Scene.full();
        Check.refused("what is on the tape is no YEARS", x, x.years(20), 10);
        return x;
    }

    private static void taken() {
        Check.sentence(Check.TERMS, "A DRAWER that is taken is there in place of that ahead; all LEADS are IN it, no SECONDS, no PENCE were spent, there are no YEARS.");
        CableDrawer x = emptied();
        Check.answers("drawer of another", x, Check.drawer(x, TWO), 2);
        int[] due = {2, 0, 0, 3, 0, 0, 0, 0};
        for (int what = 0; what < due.length; what++) {
            Check.answers("many(" + what + ")", x, x.many(what), due[what]);
        }
        Check.refused("no YEARS", x, x.live(0), 8);
        Check.refused("no YEARS", x, x.mean(0, 1), 8);
        Check.refused("no YEARS", x, x.odds(0, 0, 1), 8);
        Check.refused("no third LEAD", x, x.lead(2, 0), 2);
        int[] bare = {9, 0, 3, 3, 0, 0, 0, 4};
        for (int what = 0; what < bare.length; what++) {
            Check.due("what a LEAD ahead was told does not come to this one: lead(0, " + what + ")", x.lead(0, what), bare[what]);
        }
        CableDrawer same = emptied();
        Check.answers("its own text once more", same, Check.drawer(same, TWO + "lead c long 9 clip;lead d long 9;lead e long 9;"), 5);
        Check.due("the one that was CUT is IN", same.many(3), 31);
        Check.due("the one with a CLIP has none", same.many(4), 4);
        CableDrawer none = Scene.full();
        // calls that try what would be spend nothing of it
        none.worse(0, 1);
        none.mean(0, 2);
        none.odds(0, 0, 2);
        Check.answers("of no bytes, too", none, none.drawer(0), 0);
        for (int what = 0; what < due.length; what++) {
            Check.answers("many(" + what + ") without LEADS", none, none.many(what), 0);
        }
        Check.refused("no YEARS", none, none.live(0), 8);
    }

    private static void refusals() {
        Check.sentence(10, "(5; 10: the old one stays)");
        Scene.refuses("-1", Scene::full, x -> x.drawer(-1), 5);
        Scene.refuses("21 of 20", Scene::full, x -> x.drawer(21), 5);
        Scene.refuses("901 of 900", Scene::fed, x -> x.drawer(901), 5);
        Scene.refuses("1 of none", Scene::blank, x -> x.drawer(1), 5);
        Check.sentence(Check.TERMS, "A call with another STATUS than 0 gives NONE, or false, and changes nothing but STATUS (but drawer(), years() with 10 the tape, and what fault() tells)");
        // 13 bytes of "lead z long 3;"
        Scene.faulty("drawer(13)", x -> x.drawer(13), 2, 13);
    }

    private static void fault() {
        Check.sentence(12, "Of the latest of these with STATUS 0 or 10, what 0: the FAULT (0 without one), 1: its place (NONE without). "
            + "NONE for others, and ahead of any.");
        CableDrawer x = new CableDrawer();
        for (int what = -1; what <= 2; what++) {
            Check.due("ahead of any, fault(" + what + ")", x.fault(what), -1);
        }
        x.drawer(1);
        x.years(1);
        Check.due("ahead of any with STATUS 0 or 10", x.fault(0), -1);
        Check.drawer(x, "lead a long 99;");
        Check.due("the FAULT", x.fault(0), 4);
        Check.due("its place", x.fault(1), 12);
        for (int what : new int[] {-1, 2, 3, Integer.MIN_VALUE, Integer.MAX_VALUE}) {
            Check.due("fault(" + what + ")", x.fault(what), -1);
        }
        Check.refused("with 5", x, x.drawer(1), 5);
        Check.refused("with 5", x, x.years(-1), 5);
        Check.due("not of one with 5", x.fault(0), 4);
        Check.drawer(x, TWO);
        Check.due("without one", x.fault(0), 0);
        Check.due("without one, its place", x.fault(1), -1);
        Check.years(x, "end;");
        Check.due("of years(), too", x.fault(0), 2);
        Check.due("a place of 0", x.fault(1), 0);
        Check.years(x, "stop;");
        Check.due("without one", x.fault(0), 0);
        Check.due("without one, its place", x.fault(1), -1);
        Check.years(x, "take q;");
        Check.due("a FAULT again", x.fault(0), 3);
        x.drawer(0);
        Check.due("without one", x.fault(0), 0);
        x.mark();
        Check.drawer(x, "?");
        x.back();
        Check.due("the latest of these, whatever came since", x.fault(0), 1);
        Check.due("its place", x.fault(1), 0);
    }
}
