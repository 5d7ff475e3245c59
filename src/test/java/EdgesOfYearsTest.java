/** The grammar and the FAULTS of YEARS and promise 11, sentence by sentence. */
public final class EdgesOfYearsTest {
    private static final String TWO = "lead a long 9;lead b long 9;look l a b;";
    private static final String WORDS = "lead, long, stiff, ends, costs, used, clip, cross, threaded, tight, knot, look, open, take, "
        + "loosen, pull, from, cut, when, lump, free, loop, end, stop";

    public static void main(String[] args) {
        noneAtFirst();
        textOf300();
        tapeAndNumber();
        steps();
        tests();
        blanksAndTokens();
        faultOne();
        faultTwo();
        ends();
        names();
        numbers();
        thirtySteps();
        threeDeep();
        leastKind();
        oldOnesStay();
        refusals();
        Check.finish();
    }

    private static void good(String text, int steps) {
        CableDrawer x = Check.with(TWO);
        Check.answers("years of " + text, x, Check.years(x, text), steps);
        Check.due("fault(0) of " + text, x.fault(0), 0);
        Check.due("fault(1) of " + text, x.fault(1), -1);
        Check.due("there are YEARS then", x.live(0) >= 0, true);
    }

    private static void fails(String text, int kind, int place) {
        CableDrawer x = Check.with(TWO);
        Check.refused("years of " + text, x, Check.years(x, text), 10);
        Check.due("fault(0) of " + text, x.fault(0), kind);
        Check.due("fault(1) of " + text, x.fault(1), place);
        Check.refused("there are no YEARS then", x, x.live(0), 8);
    }

    private static void noneAtFirst() {
        Check.sentence(Check.TERMS, "YEARS are a TEXT of at most 300 bytes, of such TOKENS (none at first).");
        CableDrawer x = Check.with(TWO);
        Check.refused("none at first", x, x.live(0), 8);
        Check.refused("none at first", x, x.mean(0, 1), 8);
        Check.refused("none at first", x, x.odds(0, 0, 1), 8);
        Check.sentence(Check.TERMS, "YEARS: {STEP}.");
        Check.answers("YEARS without a STEP", x, x.years(0), 0);
        Check.answers("they are there", x, x.live(0), 0);
        CableDrawer none = new CableDrawer();
        Check.answers("without LEADS", none, Check.years(none, "open 3;loosen;"), 2);
        Check.answers("they are there", none, none.live(0), 2);
    }

    private static void textOf300() {
        Check.sentence(Check.TERMS, "YEARS are a TEXT of at most 300 bytes");
        String text = " ".repeat(293) + "loosen;";
        good(text, 1);
        CableDrawer x = Check.with(TWO, "loosen;loosen;");
        Check.feed(x, " ".repeat(294) + "loosen;");
        Check.sentence(11, "(5: above 300, too; 10)");
        Check.refused("301", x, x.years(301), 5);
        Check.refused("320, all there is on the tape", x, x.years(320), 5);
        Check.refused("299: the text's end is within a WORD", x, x.years(299), 10);
        Check.due("fault(0)", x.fault(0), 2);
        Check.due("fault(1)", x.fault(1), 294);
        Check.answers("the old ones stay", x, x.live(0), 2);
        CableDrawer long300 = Check.with(TWO);
        Check.feed(long300, "stop;".repeat(6) + " ".repeat(400) + "?");
        Check.answers("the first 300 bytes of more", long300, long300.years(300), 6);
    }

    private static void tapeAndNumber() {
        Check.sentence(11, "Likewise the YEARS: how many STEPS");
        CableDrawer x = Check.with(TWO);
        Check.feed(x, "loosen;loosen;loosen");
        Check.refused("-1", x, x.years(-1), 5);
        Check.refused("the least", x, x.years(Integer.MIN_VALUE), 5);
        Check.refused("one more than the tape has", x, x.years(21), 5);
        Check.refused("the most", x, x.years(Integer.MAX_VALUE), 5);
        Check.answers("the tape is as it was with 5: the first 14 bytes", x, x.years(14), 2);
        Check.refused("the tape is empty then", x, x.years(1), 5);
        Check.feed(x, "loose");
        Check.refused("a FAULT", x, x.years(5), 10);
        Check.refused("the tape is empty then, too", x, x.years(1), 5);
        Check.feed(x, "loosen;");
        Check.answers("no bytes are YEARS", x, x.years(0), 0);
        Check.refused("the tape is empty then, too", x, x.years(1), 5);
    }

    private static void steps() {
        Check.sentence(Check.TERMS, "STEP: open NUMBER ; or take NAME ; or loosen ; or pull NAME ; or cut NAME ; or clip NAME ; "
            + "or when TEST ; {STEP} end ; or loop NUMBER ; {STEP} end ; or stop ;");
        for (String step : new String[] {"open 1;", "take a;", "loosen;", "pull b;", "cut a;", "clip b;", "when free a;end;", "loop 1;end;", "stop;"}) {
            good(step, 1);
            good(step + step, 2);
            good("loop 2;" + step + "end;", 2);
            good("when free b;" + step + step + "end;" + step, 4);
            String bare = step.substring(0, step.length() - 1);
            fails(bare, 2, bare.length());
            fails(bare + " a;", 2, bare.length() + 1);
            fails(bare + " 7;", 2, bare.length() + 1);
            fails(bare + " <;", 2, bare.length() + 1);
        }
        for (String word : "open take pull cut clip when loop".split(" ")) {
            fails(word + ";", 2, word.length());
            fails(word + " ", 2, word.length() + 1);
            fails(word + " end;", 2, word.length() + 1);
        }
        for (String word : "lead long stiff ends costs used cross threaded tight knot look from lump free a l".split(" ")) {
            fails(word + " a;", 2, 0);
            fails("loosen;" + word + ";", 2, 7);
        }
        fails("open a;", 2, 5);
        fails("loop b;", 2, 5);
        fails("take 1;", 2, 5);
        fails("loosen a;", 2, 7);
        fails(";", 2, 0);
        fails("loosen;;", 2, 7);
        fails("7", 2, 0);
    }

    private static void tests() {
        Check.sentence(Check.TERMS, "TEST: lump COMPARES NUMBER, or cross COMPARES NUMBER, or free NAME. COMPARES: < or > or =");
        for (String sign : new String[] {"<", ">", "="}) {
            good("when lump " + sign + " 2;end;", 1);
            good("when cross" + sign + "2;end;", 1);
            fails("when lump " + sign + ";", 2, 11);
            fails("when lump " + sign + sign + " 2;", 2, 11);
            fails("when cross " + sign + " a;", 2, 13);
            fails("when free " + sign + " a;", 2, 10);
        }
        fails("when;", 2, 4);
        fails("when", 2, 4);
        fails("when 2;", 2, 5);
        fails("when a;", 2, 5);
        fails("when lump;", 2, 9);
        fails("when lump 2;", 2, 10);
        fails("when lump a;", 2, 10);
        fails("when cross ; 2;", 2, 11);
        fails("when free;", 2, 9);
        fails("when free 2;", 2, 10);
        fails("when free lump;", 2, 10);
        fails("when loosen;", 2, 5);
        fails("when open 2;", 2, 5);
    }

    private static void blanksAndTokens() {
        Check.sentence(Check.TERMS, "of such TOKENS");
        good("\n when\nlump<2\n;loosen;\n\nend ; loop02;open0003;end;", 4);
        good("   \n", 0);
        fails("loosen; loose ;", 2, 8);
        fails("loosenn;", 2, 0);
        fails("openn 3;", 2, 0);
        for (int c : new int[] {0, 9, 13, 33, 47, 58, 63, 64, 65, 90, 96, 123, 127, 128, 255}) {
            fails("loosen;" + (char) c, 1, 7);
            fails("loosen" + (char) c + ";", 1, 6);
        }
    }

    private static void faultOne() {
        Check.sentence(Check.TERMS, "FAULTS: 1, 2 as above");
        for (String ahead : new String[] {"", "open ", "open 3", "take ", "take a ", "when ", "when lump ", "when lump <", "when lump < 3 ",
            "when free ", "when free a ", "loop ", "loop 3; ", "loop 3; end ", "loosen ", "stop "}) {
            fails(ahead + "!", 1, ahead.length());
            String apart = ahead.endsWith("3") ? ahead + " " : ahead;
            fails(apart + "10000", 1, apart.length());
            fails(apart + "9999", apart.endsWith("open ") || apart.endsWith("loop ") || apart.endsWith("<") ? 4 : 2, apart.length());
        }
    }

    private static void faultTwo() {
        Check.sentence(Check.TERMS, "2 it can't stand there (the end: the text's length;");
        for (String text : new String[] {"open", "open 3", "take", "take a", "loosen", "when", "when lump", "when lump <", "when lump < 3", "when free",
            "when free a", "loop", "loop 3", "stop", "loop 3;end", "pull", "cut", "clip"}) {
            fails(text, 2, text.length());
            fails(text + " \n", 2, text.length() + 2);
            fails("stop;" + text, 2, text.length() + 5);
        }
        Check.sentence(Check.TERMS, "a WORD of 9 letters and more where a NAME must stand");
        for (String word : new String[] {"take ", "pull ", "cut ", "clip ", "when free "}) {
            fails(word + "abcdefghi;", 2, word.length());
            fails(word + "abcdefgh;", 3, word.length());
        }
    }

    private static void ends() {
        Check.sentence(Check.TERMS, "(an end without a beginning; the text's end ahead of an end: 2)");
        fails("end;", 2, 0);
        fails("loosen; end;", 2, 8);
        fails("loop 2;end;end;", 2, 11);
        fails("when free a;end; end;", 2, 17);
        fails("loop 2;", 2, 7);
        fails("loop 2;loosen; ", 2, 15);
        fails("when free a;loosen;", 2, 19);
        fails("loop 2;loop 2;end;", 2, 18);
        fails("loop 2;loop 2;loop 2;end;end;\n", 2, 30);
        good("loop 2;loop 2;loop 2;end;end;end;", 3);
        // a beginning in a text with a FAULT is none for the next one
        CableDrawer x = Check.with(TWO);
        Check.refused("without its end", x, Check.years(x, "loop 2;loop 2;"), 10);
        Check.refused("an end alone", x, Check.years(x, "end;"), 10);
        Check.due("fault(1)", x.fault(1), 0);
        Check.refused("without its end", x, Check.years(x, "loop 2;loop 2;"), 10);
        Check.answers("three deep", x, Check.years(x, "loop 2;loop 2;loop 2;end;end;end;"), 3);
    }

    private static void names() {
        Check.sentence(Check.TERMS, "3 a NAME that is no LEAD.");
        for (String word : new String[] {"take ", "pull ", "cut ", "clip ", "when free "}) {
            fails(word + "c;", 3, word.length());
            fails(word + "aa;", 3, word.length());
            fails("loosen; " + word + "l;", 3, word.length() + 8);
            for (String kept : WORDS.split(", ")) {
                fails(word + kept + ";", 2, word.length());
            }
        }
        CableDrawer x = Check.with("lead abcdefgh long 9;lead b long 9;");
        Check.answers("a NAME of 8 letters", x, Check.years(x, "take abcdefgh;"), 1);
        x.cut(0);
        Check.answers("one that was CUT is a LEAD", x, Check.years(x, "take abcdefgh;take b;"), 2);
        Check.drawer(x, TWO);
        Check.refused("a LEAD of the DRAWER ahead", x, Check.years(x, "take abcdefgh;"), 10);
        Check.due("fault(0)", x.fault(0), 3);
        CableDrawer none = new CableDrawer();
        Check.refused("without LEADS", none, Check.years(none, "pull a;"), 10);
        Check.due("fault(0)", none.fault(0), 3);
    }

    private static void numberIn(String text, int least, int most) {
        good(text.replace("#", "" + least), 1);
        good(text.replace("#", "" + most), 1);
        good(text.replace("#", "00" + most), 1);
        int place = text.indexOf('#');
        fails(text.replace("#", "" + (most + 1)), 4, place);
        fails(text.replace("#", "9999"), 4, place);
        if (least > 0) {
            fails(text.replace("#", "" + (least - 1)), 4, place);
            fails(text.replace("#", "0000"), 4, place);
        }
    }

    private static void numbers() {
        Check.sentence(Check.TERMS, "4 a NUMBER that can't be. 6 a 31st STEP");
        Check.sentence(Check.TERMS, "open: so many times (1 to 99)");
        numberIn("open #;", 1, 99);
        Check.sentence(Check.TERMS, "loop n (1 to 99): as often.");
        numberIn("loop #;end;", 1, 99);
        Check.sentence(Check.TERMS, "when lump: how many LEADS the largest LUMP has (1 is none; 0 to 8)");
        numberIn("when lump < #;end;", 0, 8);
        numberIn("when lump = #;end;", 0, 8);
        Check.sentence(Check.TERMS, "cross: how many CROSSINGS there are (0 to 24)");
        numberIn("when cross > #;end;", 0, 24);
        numberIn("when cross < #;end;", 0, 24);
    }

    private static void thirtySteps() {
        Check.sentence(Check.TERMS, "6 a 31st STEP (at its WORD; end is none).");
        good("stop;".repeat(29), 29);
        good("stop;".repeat(30), 30);
        for (String word : "open take loosen pull cut clip when loop stop".split(" ")) {
            fails("stop;".repeat(30) + word, 6, 150);
            fails("stop;".repeat(30) + " " + word + " 7 ?", 6, 151);
        }
        fails("stop;".repeat(30) + "end;", 2, 150);
        fails("stop;".repeat(30) + "lead", 2, 150);
        fails("stop;".repeat(30) + "?", 1, 150);
        good("loop 9;" + "stop;".repeat(29) + "end;", 30);
        good("loop 9;end;".repeat(10) + "when free a;end;".repeat(10) + "stop;".repeat(6), 26);
        // 300 bytes, and sixty of when, loop and end
        good("loop9;end;".repeat(30), 30);
        CableDrawer x = Check.with(TWO, "loop9;end;".repeat(30));
        Check.answers("each of them is come to", x, x.live(0), 30);
        fails("loop 9;" + "stop;".repeat(29) + "stop;", 6, 152);
        fails("loop 9;" + "stop;".repeat(29) + "end;stop;", 6, 156);
    }

    private static void threeDeep() {
        Check.sentence(Check.TERMS, "7 a when, loop within three others (at its WORD).");
        String[] openers = {"loop 2;", "when free a;"};
        for (int kinds = 0; kinds < 16; kinds++) {
            String three = openers[kinds & 1] + openers[kinds >> 1 & 1] + openers[kinds >> 2 & 1];
            good(three + "stop;end;end;end;", 4);
            fails(three + openers[kinds >> 3], 7, three.length());
            fails(three + "stop; " + openers[kinds >> 3], 7, three.length() + 6);
            good(three + "end;" + openers[kinds >> 3] + "end;end;end;", 4);
            good(three + "end;end;end;" + three + "end;end;end;", 6);
        }
        fails("loop 2;loop 2;loop 2;loop", 7, 21);
        fails("loop 2;loop 2;loop 2;when ?", 7, 21);
        fails("loop 2;loop 2;loop 2;end;loop 2;loop 2;", 7, 32);
    }

    private static void leastKind() {
        Check.sentence(Check.TERMS, "FAULTS, the first along the text (of one TOKEN the least kind)");
        fails("loop 2;loop 2;loop 2;" + "stop;".repeat(27) + "loop 2;", 6, 156);
        fails("loop 2;loop 2;loop 2;" + "stop;".repeat(26) + "loop 2;", 7, 151);
        fails("open 0;take c;", 4, 5);
        fails("take c;open 0;", 3, 5);
        fails("open 100 ?", 4, 5);
        fails("loop 0;loop 2;loop 2;loop 2;", 4, 5);
        fails("when lump = 9 ?", 4, 12);
    }

    private static void oldOnesStay() {
        Check.sentence(11, "Likewise the YEARS");
        CableDrawer x = Check.with(TWO, "loosen;loosen;loosen;");
        Check.refused("a FAULT at the end", x, Check.years(x, "loosen;end;"), 10);
        Check.answers("the old ones stay", x, x.live(0), 3);
        Check.answers("others", x, Check.years(x, "loosen;loosen;"), 2);
        Check.answers("are there in place of those", x, x.live(0), 2);
        Check.answers("the DRAWER is as it was", x, x.many(0), 2);
        Check.answers("no bytes", x, x.years(0), 0);
        Check.answers("are there in place of those", x, x.live(0), 0);
    }

    private static void refusals() {
        Check.sentence(11, "(5: above 300, too; 10)");
        Scene.refuses("-1", Scene::full, x -> x.years(-1), 5);
        Scene.refuses("21 of 20", Scene::full, x -> x.years(21), 5);
        Scene.refuses("301 of 900", Scene::fed, x -> x.years(301), 5);
        Scene.refuses("900 of 900", Scene::fed, x -> x.years(900), 5);
        Scene.refuses("1 of none", Scene::blank, x -> x.years(1), 5);
        Check.sentence(Check.TERMS, "A call with another STATUS than 0 gives NONE, or false, and changes nothing but STATUS (but drawer(), years() with 10 the tape, and what fault() tells)");
        // the text of a DRAWER is a FAULT here
        Scene.faulty("years(20)", x -> x.years(20), 2, 0);
    }
}
