/** Promise by promise: calls whose answers were worked out by hand from the document. */
public final class PromisesTest extends Checks {
    private static final String SOFT_HALVING = "breaks 1000;at 500;soft 2";

    /** Presses a new SHEET once: how many broke by this LAW. */
    private static int breaks(String law, int wide, int high, int seed, int tight) {
        return with(law, wide, high, seed).press(0, tight);
    }

    /** A SHEET 6 by 4: a fold upright at 2, a ridge level at 2 that ends on it, a ridge upright at 4. */
    private static CrumpledSheet tee() {
        CrumpledSheet x = with(SOFT_HALVING, 6, 4, 0);
        x.fold(0, 0, 2);
        x.press(0, 7);
        return x;
    }

    private static void p1NewObject() {
        CrumpledSheet x = new CrumpledSheet();
        for (int i = 0; i < 8; i++) due("count of a new object " + i, x.count(i), 0);
        due("NONE", CrumpledSheet.NONE, -1);
        due("turn without", x.turn(0), false);
    }

    private static void p2and3Tape() {
        CrumpledSheet x = new CrumpledSheet();
        due("feed", x.feed(0x62726561, 0x6b732031, -1, 7, 8), 20);
        due("end", x.end(8), 8);
        due("highest byte first", x.text(0), 0);
        x.feed(0x74757266, 0x6e6e6e6e, 0, 0, 0);
        due("end cuts", x.end(3), 3);
        due("end of more than there is", x.end(4), NONE);
        due("end below 0", x.end(-1), NONE);
        due("nothing happened", x.count(7), 3);
        x.feed(0x6e000000, 0, 0, 0, 0);
        due("end behind", x.end(4), 4);
        due("bytes come behind", x.text(1), 0);
        for (int i = 1; i <= 20; i++) due("feed " + i, x.feed(1, 2, 3, 4, 5), 20 * i);
        due("feed beyond", x.feed(1, 2, 3, 4, 5), NONE);
        due("none came", x.count(7), 400);
        due("end all", x.end(381), 381);
        due("feed beyond by one", x.feed(1, 2, 3, 4, 5), NONE);
        due("end all", x.end(380), 380);
        due("feed up to the end", x.feed(1, 2, 3, 4, 5), 400);
        due("end same", x.end(400), 400);
        due("end 0", x.end(0), 0);
    }

    private static void p4Texts() {
        CrumpledSheet x = new CrumpledSheet();
        String[] texts = {"breaks 1", "turn", "see 1=1", "5"};
        for (int sort = 0; sort < 4; sort++) {
            for (int i = 0; i < 6; i++) {
                due("text " + sort, text(x, sort, texts[sort]), i);
                due("the tape is empty then", x.count(7), 0);
                due("counted", x.count(1 + sort), i + 1);
            }
            due("a seventh", text(x, sort, texts[sort]), NONE);
            due("nothing happened to the tape", x.count(7), texts[sort].length());
        }
        CrumpledSheet y = new CrumpledSheet();
        tape(y, "turn");
        due("sort 4", y.text(4), NONE);
        due("sort -1", y.text(-1), NONE);
        due("the tape stays", y.text(1), 0);
        due("empty", y.text(0), -3);
        tape(y, "turns");
        due("a fault", y.text(1), -3);
        due("the tape is empty behind a fault", y.count(7), 0);
        due("none was added", y.count(2), 1);
    }

    private static void p4FaultsOfLawsAndRules() {
        fault(0, "breaks", 6, 0);
        fault(0, "breaks ", 7, 0);
        fault(0, "soft 0", 5, 1);
        fault(0, "soft 100", 5, 1);
        fault(0, "soft 000099", 5, 1);
        fine(0, "soft 00099");
        fault(0, "soft 1;soft 1", 7, 4);
        fault(0, "soft 1; soft 0", 8, 4);
        fault(0, "at", 2, 0);
        fault(0, "breaks used", 7, 0);
        fault(0, "breaks 5 if", 11, 0);
        fault(0, "breaks 5 iffy 1=1", 9, 0);
        fault(0, "breaks 123456+", 7, 1);
        fine(0, "breaks99999*long/short-area+round if tight<=edge and way>=total");
        fault(0, "breaks 5x", 8, 0);
        fault(0, "breaks 5;", 9, 0);
        fault(0, ";", 0, 0);
        fault(0, "see 1=1", 0, 0);
        fault(0, "soft 5 if 1=1", 7, 0);
        fault(0, "breaks 1 \u0000", 9, 0);
        fault(0, "breaks 1 - -1", 11, 0);
        fault(0, "breaks 1 if 1 < = 2", 16, 0);
        fault(0, "breaks 1 if 1 == 2", 15, 0);
        fine(0, "breaks 1 if 1 <= 2 or 2 >= 1 or 1 < 2 or 2 > 1 or 1 = 1");
        fault(2, "see", 3, 0);
        fault(2, "see long = 1", 4, 0);
        fault(2, "miss kind", 9, 0);
        fault(2, "see way 123456", 8, 0);
        fault(2, "see [1=1", 8, 0);
        fault(2, "see [1=1]]", 9, 0);
        fault(2, "see 1=1 and", 11, 0);
        fault(2, "see 1=1 nor 1=1", 8, 0);
        fine(2, " see length+round*used-kind/way<place+ends ; miss now = 1 ");
    }

    private static void p4Limits() {
        String open = "[".repeat(10);
        fine(2, "see " + open + "1=1" + "]".repeat(10));
        fault(2, "see [" + open + "1=1" + "]".repeat(11), 14, 2);
        fault(2, "see " + "not ".repeat(11) + "1=1", 44, 2);
        fine(2, "see " + "not ".repeat(10) + "1=1");
        fault(2, "see " + "not[".repeat(5) + "not 1=1", 24, 2);
        fine(2, "see " + "not [".repeat(5) + "1=1" + "]".repeat(5) + " and not 1=1");
        fine(2, "see 1" + "+1".repeat(57) + "=1");
        fault(2, "see 1" + "+1".repeat(58) + "=1", 4 + 118, 3);
        fault(2, "see 1" + "+1".repeat(59) + "=1", 4 + 119, 3);
        fault(2, "see 1" + "+1".repeat(60) + "=1", 4 + 120, 3);
        fault(2, "see 1" + "+1".repeat(59) + "+x", 4 + 120, 0);
        fault(2, "see 1" + "+1".repeat(59) + "+123456", 4 + 120, 1);
        fault(0, "breaks 1" + "+1".repeat(29) + ";at 1" + "+1".repeat(30), 7 + 59 + 1 + 3 + 60, 3);
        fine(0, "breaks 1" + "+1".repeat(29) + ";at 1" + "+1".repeat(29) + ";soft 3");
        fine(1, "turn;".repeat(11) + "turn");
        fault(1, "turn;".repeat(12) + "turn", 60, 4);
        fault(1, "turn;".repeat(12) + "turm", 60, 0);
        fault(1, "turn;".repeat(12), 60, 0);
        fault(0, "at 1;".repeat(12) + "soft 1", 60, 4);
        fault(2, "see 1=1;".repeat(12) + " miss", 97, 4);
        fault(1, "turn" + " ".repeat(395) + "x", 399, 0);
        fine(1, " ".repeat(390) + "press00001");
        fault(1, "turn" + " ".repeat(395) + ";", 400, 0);
    }

    private static void p4FaultsOfDoingsAndStrips() {
        fault(1, "press 0", 6, 1);
        fault(1, "press 100", 6, 1);
        fault(1, "press 5 times 61", 14, 1);
        fault(1, "press 5 times 0", 14, 1);
        fault(1, "press 5 times", 13, 0);
        fault(1, "press 5 time 4", 8, 0);
        fault(1, "fold 5", 5, 0);
        fault(1, "fold level 200", 11, 1);
        fault(1, "fold upright 0", 13, 1);
        fault(1, "fold level", 10, 0);
        fault(1, "turn 5", 5, 0);
        fault(1, "breaks 1", 0, 0);
        fine(1, "press99times60;fold upright199;fold level 1;turn");
        fault(3, "0", 0, 1);
        fault(3, "10000", 0, 1);
        fault(3, "123456", 0, 1);
        fine(3, "9999M1V00001");
        fault(3, "5 M", 3, 0);
        fault(3, "5 X 3", 2, 0);
        fault(3, "5 M 3;", 5, 0);
        fault(3, "M 3", 0, 0);
        fault(3, "5 M 0", 4, 1);
        fault(3, "5 m 1", 2, 0);
        fine(3, "1M".repeat(20) + "1");
        fault(3, "1M".repeat(21) + "1", 41, 4);
        fault(3, "1M".repeat(20) + "1;", 41, 0);
    }

    private static void p5Sheet() {
        CrumpledSheet x = new CrumpledSheet();
        due("without a law", x.sheet(5, 5, 0, 1), NONE);
        text(x, 0, "breaks 1");
        int[][] bad = {{1, 5, 0, 1}, {201, 5, 0, 1}, {5, 1, 0, 1}, {5, 201, 0, 1}, {5, 5, 1, 1}, {5, 5, -1, 1}, {5, 5, 0, -1}};
        for (int[] b : bad) due("wrong sheet", x.sheet(b[0], b[1], b[2], b[3]), NONE);
        due("the least", x.sheet(2, 2, 0, 0), 0);
        due("the greatest", x.sheet(200, 200, 0, Integer.MAX_VALUE), 1);
        for (int i = 2; i < 6; i++) due("sheet", x.sheet(20, 30, 0, i), i);
        due("a seventh", x.sheet(20, 30, 0, 9), NONE);
        int[] of = {200, 200, 0, 1, 0, 0, 0};
        for (int i = 0; i < of.length; i++) due("of a new sheet " + i, x.of(1, i), of[i]);
        due("its one facet", x.facet(1, 0, 2), 200);
    }

    private static void p6Press() {
        CrumpledSheet x = with(SOFT_HALVING, 8, 4, 0);
        due("first", x.press(0, 1), 1);
        facet(x, 0, 0, 0, 4, 4, 3);
        facet(x, 1, 4, 0, 4, 4, 3);
        ridge(x, 0, 0, 4, 0, 4, 1, 0, 1);
        due("second", x.press(0, 99), 2);
        facet(x, 2, 2, 0, 2, 4, 2);
        facet(x, 3, 6, 0, 2, 4, 3);
        ridge(x, 0, 0, 4, 0, 4, 1, 0, 2);
        ridge(x, 2, 0, 6, 0, 4, 2, 0, 1);
        due("third", x.press(0, 5), 4);
        facet(x, 7, 6, 2, 2, 2, 2);
        ridge(x, 6, 1, 2, 6, 8, 3, 0, 1);
        due("no such sheet", x.press(1, 5), NONE);
        due("no such sheet", x.press(-1, 5), NONE);
        due("not tight", x.press(0, 0), NONE);
        due("too tight", x.press(0, 100), NONE);
        due("nothing happened", x.of(0, 2), 3);
        for (int i = 4; i <= 60; i++) x.press(0, 5);
        due("sixty rounds", x.of(0, 2), 60);
        due("a sixty-first", x.press(0, 5), NONE);
        due("not used again", x.ridge(0, 0, 6), 60);
        CrumpledSheet big = with(SOFT_HALVING, 200, 200, 0);
        int[] broken = {1, 2, 4, 8, 16, 32, 64, 72, 0};
        for (int b : broken) due("room for 200 facets", big.press(0, 9), b);
        due("facets", big.of(0, 3), 200);
        due("ridges", big.of(0, 4), 199);
    }

    private static void p6Draws() {
        CrumpledSheet x = with("breaks 1000", 8, 4, 1);
        x.press(0, 1);
        ridge(x, 0, 0, 5, 0, 4);
        due("both break", x.press(0, 1), 2);
        ridge(x, 1, 0, 4, 0, 4);
        ridge(x, 2, 1, 3, 5, 8);
        due("838 is not below 838", breaks("breaks 838", 8, 4, 1, 1), 0);
        due("838 is below 839", breaks("breaks 839", 8, 4, 1, 1), 1);
        due("the greatest seed", with("breaks 1000", 8, 4, Integer.MAX_VALUE).press(0, 1), 1);
        CrumpledSheet y = with("breaks 1000 if round < 4;breaks 838;at 1", 2, 3, 1);
        for (int i = 0; i < 5; i++) y.press(0, 1);
        due("all are small", y.of(0, 3), 6);
    }

    private static void p6Laws() {
        due("no breaks", breaks("at 500", 8, 4, 1, 1), 0);
        due("the first without a test", breaks("breaks 0;breaks 1000", 8, 4, 1, 1), 0);
        due("the first whose test holds", breaks("breaks 0 if way = 1;breaks 1000", 8, 4, 1, 1), 1);
        due("none holds", breaks("breaks 1000 if long < 8", 8, 4, 1, 1), 0);
        due("more than 1000", breaks("breaks 99999*99999", 8, 4, 1, 1), 1);
        due("below 0", breaks("breaks 0-5", 8, 4, 1, 1), 0);
        due("words", breaks("breaks 1000 if long=8 and short=4 and area=32 and round=1 and tight=7 and edge=4 and way=0 and total=0", 8, 4, 1, 7), 1);
        due("way of a high one", breaks("breaks 1000 if way=1", 4, 8, 1, 7), 1);
        due("way of a square", breaks("breaks 1000 if way=0", 8, 8, 1, 7), 1);
        due("products first", breaks("breaks 1000 if 2+3*4=14 and 20-4-3=13 and 7/2*2=6 and 0-7/2=0-3", 8, 4, 1, 7), 1);
        String below = "60000*60000*60000*60000";
        due("towards 0", breaks("breaks 1000 if " + below + "<0 and " + below + "/5*5-1=" + below, 8, 4, 1, 7), 1);
        due("by 0", breaks("breaks 1000 if 7/0=0", 8, 4, 1, 7), 1);
        due("round in 64 bits", breaks("breaks 1000 if 99999*99999*99999*99999<0", 8, 4, 1, 7), 0);
        due("and before or", breaks("breaks 1000 if 1=1 or 1=2 and 1=2", 8, 4, 1, 7), 1);
        due("brackets", breaks("breaks 1000 if [1=1 or 1=2] and 1=2", 8, 4, 1, 7), 0);
        due("not of one fact", breaks("breaks 1000 if not 1=2 and 1=2", 8, 4, 1, 7), 0);
        due("not of brackets", breaks("breaks 1000 if not [1=2 and 1=2]", 8, 4, 1, 7), 1);
        due("the twelfth clause", breaks("breaks 0 if way=1;".repeat(11) + "breaks 1000 if way=0", 8, 4, 1, 7), 1);
        CrumpledSheet twelve = with("breaks 1000" + ";at 0 if way=1".repeat(10) + ";at 875", 8, 4, 1);
        twelve.press(0, 1);
        due("an at as the twelfth clause", twelve.ridge(0, 0, 1), 7);
        int[][] places = {{0, 1}, {124, 1}, {125, 1}, {249, 1}, {250, 2}, {874, 6}, {875, 7}, {1000, 7}, {99999, 7}};
        for (int[] p : places) {
            CrumpledSheet x = with("breaks 1000;at " + p[0], 8, 4, 1);
            x.press(0, 1);
            due("at " + p[0], x.ridge(0, 0, 1), p[1]);
        }
        CrumpledSheet low = with("breaks 1000;at 0-9999*9999", 8, 4, 1);
        low.press(0, 1);
        due("at below 0", low.ridge(0, 0, 1), 1);
        CrumpledSheet none = with("breaks 1000;at 1 if way = 1", 8, 4, 1);
        none.press(0, 1);
        due("no at holds", none.ridge(0, 0, 1), 5);
    }

    /** total is what it was when the pressing began: the second facet sees the first one's ridge in the next ROUND only. */
    private static void p6Total() {
        CrumpledSheet x = with("breaks 1000 if total < 5;at 500", 8, 4, 0);
        x.press(0, 1);
        due("both break", x.press(0, 1), 2);
        due("none breaks", x.press(0, 1), 0);
    }

    private static void p7Fold() {
        CrumpledSheet x = with(SOFT_HALVING, 8, 4, 0);
        due("fold", x.fold(0, 0, 3), 1);
        facet(x, 0, 0, 0, 3, 4, 3);
        facet(x, 1, 3, 0, 5, 4, 3);
        ridge(x, 0, 0, 3, 0, 4, 0, 1, 1);
        due("fold through both", x.fold(0, 1, 1), 2);
        facet(x, 0, 0, 0, 3, 1, 2);
        facet(x, 2, 0, 1, 3, 3, 2);
        facet(x, 3, 3, 1, 5, 3, 2);
        ridge(x, 1, 1, 1, 0, 8, 0, 1, 1);
        due("not used by it", x.ridge(0, 0, 6), 1);
        due("through none", x.fold(0, 0, 3), NONE);
        due("at the edge", x.fold(0, 0, 0), NONE);
        due("at the edge", x.fold(0, 0, 8), NONE);
        due("at the edge", x.fold(0, 1, 4), NONE);
        due("way 2", x.fold(0, 2, 1), NONE);
        due("way -1", x.fold(0, -1, 1), NONE);
        due("no such sheet", x.fold(1, 0, 1), NONE);
        due("far", x.fold(0, 1, Integer.MAX_VALUE), NONE);
        due("nothing happened", x.of(0, 4), 2);
        x.press(0, 3);
        x.fold(0, 1, 2);
        due("of the round that is", x.ridge(0, x.of(0, 4) - 1, 4), 1);
        CrumpledSheet y = with("breaks 0", 200, 200, 0);
        for (int i = 1; i <= 9; i++) due("level", y.fold(0, 1, i), 1);
        for (int i = 1; i <= 19; i++) due("upright", y.fold(0, 0, i), 10);
        due("no room", y.fold(0, 0, 20), NONE);
        due("no room", y.fold(0, 1, 20), NONE);
        due("full", y.of(0, 3), 200);
    }

    private static void p8Turn() {
        CrumpledSheet x = tee();
        due("turn", x.turn(0), true);
        due("wide", x.of(0, 0), 4);
        due("high", x.of(0, 1), 6);
        facet(x, 1, 0, 2, 4, 2, 2);
        ridge(x, 0, 1, 2, 0, 4, 0, 1, 2);
        ridge(x, 1, 0, 2, 0, 2, 1, 0, 1);
        due("no such sheet", x.turn(1), false);
        due("no such sheet", x.turn(-1), false);
        x.turn(0);
        facet(x, 1, 2, 0, 2, 4, 2);
    }

    private static void p9Done() {
        CrumpledSheet x = with(SOFT_HALVING, 8, 4, 0);
        text(x, 1, "press 10 times 2;fold level 1");
        text(x, 1, "turn;fold upright 7;turn");
        text(x, 1, "press 1 times 60;turn");
        due("done", x.done(0, 0), 3);
        due("round", x.of(0, 2), 2);
        due("facets", x.of(0, 3), 8);
        due("stops at the fold", x.done(1, 0), 1);
        due("turned", x.of(0, 0), 4);
        due("stops at 60 rounds", x.done(2, 0), 58);
        due("not turned", x.of(0, 0), 4);
        due("nothing can be", x.done(2, 0), 0);
        due("no such doing", x.done(4, 0), NONE);
        x.sheet(8, 4, 0, 0);
        text(x, 1, "turn;".repeat(11) + "fold level 7");
        due("twelve clauses", x.done(3, 1), 12);
        due("the twelfth one", x.ridge(1, 0, 1), 7);
        due("no such doing", x.done(-1, 0), NONE);
        due("no such sheet", x.done(0, 2), NONE);
        due("no such sheet", x.done(0, -1), NONE);
    }

    private static void p10to12Parts() {
        CrumpledSheet x = tee();
        int[][] bad = {{1, 0, 0}, {-1, 0, 0}, {0, 4, 0}, {0, -1, 0}, {0, 0, 5}, {0, 0, -1}};
        for (int[] b : bad) due("no such facet", x.facet(b[0], b[1], b[2]), NONE);
        int[][] none = {{1, 0, 0}, {-1, 0, 0}, {0, 3, 0}, {0, -1, 0}, {0, 0, 7}, {0, 0, -1}};
        for (int[] b : none) due("no such ridge", x.ridge(b[0], b[1], b[2]), NONE);
        int[] of = {6, 4, 1, 4, 3, 10, 1, NONE};
        for (int i = 0; i < of.length; i++) due("of " + i, x.of(0, i), of[i]);
        due("of -1", x.of(0, -1), NONE);
        due("of no sheet", x.of(1, 0), NONE);
    }

    private static void p13to17Lengths() {
        CrumpledSheet x = with(SOFT_HALVING, 8, 4, 0);
        x.fold(0, 1, 1);
        x.press(0, 3);
        x.fold(0, 0, 1);
        x.press(0, 3);
        due("length 0", x.length(0, 0), 8);
        due("length 1", x.length(0, 1), 8 + 4 + 4);
        due("length 60", x.length(0, 60), x.of(0, 5));
        due("adds 0", x.adds(0, 0), 8);
        due("adds 1", x.adds(0, 1), 8);
        due("adds 60", x.adds(0, 60), 0);
        for (int round : new int[] {-1, 61}) {
            due("length of no round", x.length(0, round), NONE);
            due("adds of no round", x.adds(0, round), NONE);
        }
        due("length of no sheet", x.length(1, 0), NONE);
        due("adds of no sheet", x.adds(1, 0), NONE);
        CrumpledSheet y = with("breaks 10*long+tight+100*round+total", 8, 4, 0);
        y.fold(0, 0, 3);
        due("expected", y.expected(0, 5, 0), (40 + 5 + 100 + 4) * 3 + (50 + 5 + 100 + 4) * 4);
        due("likely", y.expected(0, 5, 1), (40 + 5 + 100 + 4) + (50 + 5 + 100 + 4));
        int[][] bad = {{1, 5, 0}, {0, 0, 0}, {0, 100, 0}, {0, 5, 2}, {0, 5, -1}};
        for (int[] b : bad) due("not expected", y.expected(b[0], b[1], b[2]), NONE);
        CrumpledSheet small = with("breaks 5000;at 1", 2, 2, 0);
        due("held", small.expected(0, 1, 0), 2000);
        small.press(0, 1);
        small.press(0, 1);
        due("no long of 2", small.expected(0, 1, 0), 0);
    }

    private static void p16and17Foretold() {
        CrumpledSheet x = with("breaks 200*round+tight;at 500", 8, 4, 1);
        due("not yet", x.foretold(0, 1), NONE);
        x.press(0, 50);
        due("foretold 1", x.foretold(0, 1), 250 * 4);
        due("nothing broke", x.of(0, 4), 0);
        x.fold(0, 1, 1);
        x.press(0, 99);
        due("foretold 2", x.foretold(0, 2), 499 * (1 + 3));
        int pressed = x.adds(0, 2);
        due("miss of one", x.miss(0, 1, 1), 1000);
        due("miss of the other", x.miss(0, 2, 2), Math.abs(1000 * pressed - 1996));
        due("miss of both", x.miss(0, 1, 2), 1000 + Math.abs(1000 * pressed - 1996));
        due("foretold stays", x.foretold(0, 1), 1000);
        int[][] bad = {{0, 0, 1}, {0, 1, 3}, {0, 2, 1}, {1, 1, 1}, {0, -5, 1}};
        for (int[] b : bad) due("no miss", x.miss(b[0], b[1], b[2]), NONE);
        due("foretold 0", x.foretold(0, 0), NONE);
        due("foretold 3", x.foretold(0, 3), NONE);
        due("foretold of no sheet", x.foretold(1, 1), NONE);
        CrumpledSheet last = with("breaks 7 if round = 60", 8, 4, 1);
        for (int i = 0; i < 60; i++) last.press(0, 1);
        due("foretold 60", last.foretold(0, 60), 28);
        due("foretold 59", last.foretold(0, 59), 0);
        due("foretold 61", last.foretold(0, 61), NONE);
        CrumpledSheet y = with(SOFT_HALVING, 8, 4, 1);
        y.press(0, 1);
        y.fold(0, 1, 1);
        due("without what was folded", y.miss(0, 1, 1), 0);
    }

    private static void p18and19Guess() {
        CrumpledSheet x = with(SOFT_HALVING, 8, 4, 0);
        x.sheet(8, 4, 0, 0);
        due("the other's round is 0", x.guess(0, 1), -2);
        for (int i = 0; i < 3; i++) x.press(0, 1);
        due("nearest 0", x.guess(1, 0), 4);
        x.fold(1, 1, 1);
        due("8 lies between 4 and 12: the first", x.guess(1, 0), 8);
        x.fold(1, 0, 1);
        x.fold(1, 0, 2);
        due("16 is nearest 12", x.guess(1, 0), 8);
        due("not of itself", x.guess(0, 0), NONE);
        due("no such other", x.guess(0, 2), NONE);
        due("no such sheet", x.guess(2, 0), NONE);
        due("curve", x.curve(0, 0), 14);
        due("off", x.curve(0, 1), 15);
        due("no round", x.curve(1, 0), -2);
        due("no round", x.curve(1, 1), -2);
        due("curve what 2", x.curve(0, 2), NONE);
        due("curve what -1", x.curve(1, -1), NONE);
        due("curve of no sheet", x.curve(2, 0), NONE);
    }

    private static void p20to23Sizes() {
        CrumpledSheet x = with(SOFT_HALVING, 8, 4, 0);
        due("one", x.sizes(0, 2), 32);
        due("class 5", x.classes(0, 5), 1);
        x.fold(0, 0, 1);
        x.fold(0, 1, 1);
        int[] sizes = {1, 21, 3, NONE};
        for (int i = 0; i < sizes.length; i++) due("sizes " + i, x.sizes(0, i), sizes[i]);
        due("sizes -1", x.sizes(0, -1), NONE);
        due("sizes of no sheet", x.sizes(1, 0), NONE);
        int[] classes = {1, 1, 1, 0, 1, 0};
        for (int k = 0; k < classes.length; k++) due("class " + k, x.classes(0, k), classes[k]);
        due("class 15", x.classes(0, 15), 0);
        due("class 16", x.classes(0, 16), NONE);
        due("class -1", x.classes(0, -1), NONE);
        due("class of no sheet", x.classes(1, 0), NONE);
        due("no other one", x.likest(0), -2);
        x.sheet(200, 200, 0, 0);
        due("class 15 of 40000", x.classes(1, 15), 1);
        x.sheet(4, 6, 0, 0);
        x.sheet(5, 5, 0, 0);
        due("apart", x.apart(0, 1), 5);
        due("apart", x.apart(2, 0), 3);
        due("alike", x.apart(2, 3), 0);
        due("likest", x.likest(0), 2);
        due("likest", x.likest(3), 2);
        due("the least of several", x.likest(1), 2);
        due("not itself", x.apart(0, 0), NONE);
        due("no such", x.apart(0, 4), NONE);
        due("no such", x.apart(-1, 0), NONE);
        due("no such", x.likest(4), NONE);
    }

    private static void p24to26Readers() {
        CrumpledSheet x = tee();
        x.sheet(9, 9, 0, 0);
        text(x, 2, "miss kind = 1");
        text(x, 2, "see way = 1;see place > 3");
        text(x, 2, "see 1 = 2");
        text(x, 2, "see length=4 and round=0 and used=2 and kind=1 and way=0 and place=2 and ends=2 and now=1");
        text(x, 2, "see ends = 1");
        text(x, 2, "see 1=1");
        int[][] seen = {{2, 6, 1}, {2, 6, 1}, {0, 0, 0}, {1, 4, 0}, {1, 2, 1}, {3, 10, 0}};
        for (int r = 0; r < seen.length; r++) {
            for (int i = 0; i < 3; i++) due("seen by rule " + r + " what " + i, x.seen(r, 0, i), seen[r][i]);
        }
        due("right", x.right(0, 0, 0), 1);
        due("the first", x.right(0, 0, 1), 0);
        due("nothing to put right", x.right(3, 0, 0), 0);
        due("none", x.right(3, 0, 1), -2);
        due("often by itself", x.often(0, 0, 0), 1);
        due("often what is folded", x.often(3, 0, 0), 0);
        due("often, none", x.often(0, 0, 1), -2);
        due("often of nothing", x.often(0, 1, 0), 0);
        CrumpledSheet y = tee();
        text(y, 2, "see 1=2;".repeat(11) + "see way=1");
        due("the twelfth clause", y.seen(0, 0, 1), 2);
        text(y, 2, "see 1=1;".repeat(11) + "miss way=1");
        due("a miss as the twelfth clause", y.seen(1, 0, 1), 8);
        int[][] bad = {{6, 0, 0}, {-1, 0, 0}, {0, 2, 0}, {0, -1, 0}, {0, 0, 3}, {0, 0, -1}};
        for (int[] b : bad) {
            due("not seen", x.seen(b[0], b[1], b[2]), NONE);
            due("not right", x.right(b[0], b[1], b[2]), NONE);
            due("not often", x.often(b[0], b[1], b[2]), NONE);
        }
        due("right what 2", x.right(0, 0, 2), NONE);
    }

    private static void p27to29Corners() {
        CrumpledSheet x = tee();
        due("corners", x.corners(0, 0), 1);
        due("two arms", x.corners(0, 2), 0);
        due("three arms", x.corners(0, 3), 1);
        due("four arms", x.corners(0, 4), 0);
        due("not flat", x.flat(0), 0);
        for (int what : new int[] {1, 5, -1}) due("corners what " + what, x.corners(0, what), NONE);
        due("corners of no sheet", x.corners(1, 0), NONE);
        due("flat of no sheet", x.flat(1), NONE);
        due("strength", x.strength(0, 50), 20);
        due("strength, downwards", x.strength(0, 3), 333);
        due("strength 0", x.strength(0, 0), NONE);
        due("strength 100", x.strength(0, 100), NONE);
        due("strength of no sheet", x.strength(1, 5), NONE);
        x.fold(0, 1, 2);
        due("a fold along a ridge", x.corners(0, 4), 2);
        due("flat", x.flat(0), 1);
        CrumpledSheet y = with(SOFT_HALVING, 8, 4, 0);
        due("without ridges", y.flat(0), 1);
        due("without ridges", y.corners(0, 0), 0);
        y.press(0, 1);
        y.press(0, 1);
        due("only at the edge", y.corners(0, 0), 0);
        y.press(0, 1);
        due("where four facets meet", y.corners(0, 4), 3);
        due("flat", y.flat(0), 1);
        CrumpledSheet wide = with("breaks 0", 200, 200, 0);
        for (int way = 0; way < 2; way++) {
            wide.fold(0, way, 199);
            wide.fold(0, way, 1);
        }
        due("near all edges of the widest sheet", wide.corners(0, 0), 4);
        due("all with four arms", wide.corners(0, 4), 4);
        CrumpledSheet odd = with("breaks 0;soft 1", 3, 5, 0);
        odd.fold(0, 1, 2);
        due("soft at once, by 2 downwards", odd.strength(0, 100 / 2), 2);
        CrumpledSheet never = with("breaks 0", 2, 2, 0);
        never.fold(0, 0, 1);
        for (int i = 0; i < 60; i++) never.press(0, 1);
        due("without soft", never.of(0, 6), 0);
        due("used often", never.strength(0, 1), 61 * 2 * 100);
    }

    private static void p30and40Strips() {
        CrumpledSheet x = new CrumpledSheet();
        String[] texts = {"2 M 1 V 2", "2 M 1 M 2", "7", "3 V 5 M 5 V 2 V 4", "9M2V5V3M2"};
        int[][] want = {{2, 1, 1, 0, 3, 0}, {2, 0, 0, 2, 2, 0}, {0, 1, 0, 0, 7, NONE}, {4, 0, 2, 2, 5, 2}, {4, 1, 3, 0, 12, 2}};
        for (int i = 0; i < texts.length; i++) {
            text(x, 3, texts[i]);
            for (int what = 0; what < 6; what++) due("strip " + texts[i] + " what " + what, x.strip(i, what), want[i][what]);
        }
        text(x, 3, "1M".repeat(20) + "9999");
        int[] twenty = {20, 1, 20, 0, 9999, 0};
        for (int what = 0; what < 6; what++) due("strip of twenty what " + what, x.strip(5, what), twenty[what]);
        due("strip 6", x.strip(6, 0), -2);
        due("strip -1", x.strip(-1, 0), -2);
        due("what 6", x.strip(0, 6), -2);
        due("what -1", x.strip(0, -1), -2);
        int[][] halves = {{1, 1, 0}, {2, 1, 1}, {3, 4, 4}, {5, 8, 6}, {999, 999, 20}, {513, 512, 19}};
        for (int[] h : halves) due("halves " + h[0] + " " + h[1], x.halves(h[0], h[1]), h[2]);
        int[][] bad = {{0, 1}, {1, 0}, {1000, 1}, {1, 1000}, {-3, 3}};
        for (int[] b : bad) due("no halves", x.halves(b[0], b[1]), NONE);
    }

    private static void p31to34Beside() {
        CrumpledSheet x = tee();
        int[] beside = {2, 3, 2, 1};
        for (int f = 0; f < 4; f++) due("beside " + f, x.beside(0, f), beside[f]);
        due("most", x.most(0), 1);
        int[][] steps = {{0, 0, 0}, {0, 2, 1}, {0, 3, 2}, {3, 2, 2}, {1, 3, 1}};
        for (int[] s : steps) due("steps " + s[0] + " " + s[1], x.steps(0, s[0], s[1]), s[2]);
        due("heart", x.heart(0, 0), 1);
        due("farthest", x.heart(0, 1), 1);
        due("heart what 2", x.heart(0, 2), NONE);
        due("heart what -1", x.heart(0, -1), NONE);
        due("heart of no sheet", x.heart(1, 0), NONE);
        due("most of no sheet", x.most(1), NONE);
        due("beside of no sheet", x.beside(1, 0), NONE);
        due("beside no facet", x.beside(0, 4), NONE);
        due("beside no facet", x.beside(0, -1), NONE);
        int[][] bad = {{1, 0, 0}, {0, 4, 0}, {0, 0, 4}, {0, -1, 0}, {0, 0, -1}};
        for (int[] b : bad) due("no steps", x.steps(b[0], b[1], b[2]), NONE);
        CrumpledSheet cross = with(SOFT_HALVING, 4, 4, 0);
        due("alone", cross.beside(0, 0), 0);
        due("alone", cross.heart(0, 1), 0);
        cross.fold(0, 0, 2);
        cross.fold(0, 1, 2);
        due("not over a corner", cross.beside(0, 0), 2);
        due("the least of several", cross.most(0), 0);
        due("over two sides", cross.steps(0, 0, 3), 2);
        due("heart", cross.heart(0, 0), 0);
    }

    private static void p35to37After() {
        CrumpledSheet x = with(SOFT_HALVING, 8, 4, 0);
        due("no doings", x.which(0), -2);
        text(x, 1, "turn");
        text(x, 1, "press 10 times 2;fold level 1");
        text(x, 1, "press 1;fold level 1;fold level 1");
        int[] after = {3, 8, 20, NONE};
        for (int i = 0; i < after.length; i++) due("after what " + i, x.after(1, 0, i), after[i]);
        due("nothing changed", x.of(0, 4), 0);
        due("after what can't be", x.after(2, 0, 0), 2);
        due("no ridges", x.which(0), 0);
        x.press(0, 1);
        due("after, as it is", x.after(1, 0, 0), 3);
        due("after, as it is", x.after(1, 0, 1), 12);
        x.fold(0, 1, 1);
        due("alike", x.alike(0, 0), 0);
        due("alike", x.alike(0, 1), 2);
        due("alike", x.alike(0, 2), 2);
        due("which", x.which(0), 1);
        x.turn(0);
        due("turned", x.alike(0, 1), 0);
        due("which", x.which(0), 0);
        text(x, 1, "press 1;fold level 1;turn");
        due("both turned", x.alike(0, 3), 2);
        due("which", x.which(0), 3);
        x.fold(0, 1, 5);
        text(x, 1, "turn");
        text(x, 1, "fold upright 5;press 1;fold level 1;fold upright 4;turn");
        due("the sixth", x.alike(0, 5), 3);
        due("which", x.which(0), 5);
        int[][] bad = {{6, 0, 0}, {-1, 0, 0}, {0, 1, 0}, {0, -1, 0}, {0, 0, -1}};
        for (int[] b : bad) due("no after", x.after(b[0], b[1], b[2]), NONE);
        due("no alike", x.alike(1, 0), NONE);
        due("no alike", x.alike(0, 6), NONE);
        due("no which", x.which(1), NONE);
    }

    private static void p38and39Runs() {
        CrumpledSheet x = with("breaks 838", 8, 4, 77);
        text(x, 1, "press 1");
        due("one run", x.runs(0, 0, 1, 1, 1), 0);
        due("two runs", x.runs(0, 0, 1, 2, 1), 1);
        due("three runs", x.runs(0, 0, 1, 3, 4), 2);
        due("bar 5", x.runs(0, 0, 1, 3, 5), 0);
        due("bar 0", x.runs(0, 0, 1, 10, 0), 10);
        due("nothing changed", x.of(0, 2), 0);
        int[][] bad = {{1, 0, 1, 1, 1}, {0, 1, 1, 1, 1}, {0, 0, -1, 1, 1}, {0, 0, 1, 0, 1}, {0, 0, 1, 11, 1},
            {0, 0, 1, 1, -1}, {0, 0, 1, 1, 100000}, {-1, 0, 1, 1, 1}};
        for (int[] b : bad) due("no runs", x.runs(b[0], b[1], b[2], b[3], b[4]), NONE);
        due("bar 99999", x.runs(0, 0, Integer.MAX_VALUE, 10, 99999), 0);
        CrumpledSheet y = with(SOFT_HALVING, 8, 4, 0);
        int[][] until = {{200, 0}, {8, 0}, {7, 1}, {4, 1}, {3, 3}, {2, 3}, {1, 5}};
        for (int[] u : until) due("until " + u[0], y.until(0, 9, u[0]), u[1]);
        y.press(0, 1);
        due("as it is", y.until(0, 9, 1), 4);
        due("nothing changed", y.of(0, 2), 1);
        int[][] not = {{1, 9, 1}, {0, 0, 1}, {0, 100, 1}, {0, 9, 0}, {0, 9, 201}};
        for (int[] b : not) due("no until", y.until(b[0], b[1], b[2]), NONE);
        CrumpledSheet never = with("breaks 1000 if round = 60;at 500", 8, 4, 0);
        due("in the last round", never.until(0, 9, 4), 60);
        due("never", never.until(0, 9, 3), -2);
    }

    private static void p41to43Images() {
        CrumpledSheet x = new CrumpledSheet();
        due("never made", x.back(0), NONE);
        due("an image of nothing", x.image(3), 0);
        text(x, 0, SOFT_HALVING);
        x.sheet(8, 4, 0, 5);
        x.sheet(9, 9, 0, 5);
        x.press(0, 1);
        due("image", x.image(0), 2);
        x.press(0, 1);
        x.turn(0);
        x.sheet(3, 3, 0, 0);
        text(x, 1, "turn");
        x.feed(0, 0, 0, 0, 0);
        int[] count = {3, 1, 1, 0, 0, 6, 3, 20, NONE};
        for (int i = 0; i < count.length; i++) due("count " + i, x.count(i), count[i]);
        due("count -1", x.count(-1), NONE);
        due("another image", x.image(1), 3);
        due("back", x.back(0), 2);
        int[] then = {2, 1, 1, 0, 0, 3, 1, 20, NONE};
        for (int i = 0; i < then.length; i++) due("count then " + i, x.count(i), then[i]);
        int[] of = {8, 4, 1, 2, 1, 4, 0};
        for (int i = 0; i < of.length; i++) due("of then " + i, x.of(0, i), of[i]);
        due("used then", x.ridge(0, 0, 6), 1);
        due("foretold then", x.foretold(0, 1), 4000);
        x.press(1, 1);
        due("back once more", x.back(0), 2);
        due("the image stays", x.of(1, 2), 0);
        due("the other image", x.back(1), 3);
        due("as it was", x.of(0, 0), 4);
        due("back to nothing", x.back(3), 0);
        due("the law stays", x.count(1), 1);
        for (int k : new int[] {-1, 4}) {
            due("no image", x.image(k), NONE);
            due("no image", x.back(k), NONE);
        }
        due("never made", x.back(2), NONE);
    }

    /** What is drawn behind an image is drawn alike when it has been gone back to. */
    private static void p43Draws() {
        CrumpledSheet x = with("breaks 900", 40, 30, 12345);
        x.press(0, 1);
        x.image(2);
        x.press(0, 1);
        x.press(0, 1);
        int length = x.of(0, 5);
        int place = x.ridge(0, x.of(0, 4) - 1, 1);
        x.back(2);
        x.press(0, 1);
        x.press(0, 1);
        due("length", x.of(0, 5), length);
        due("place", x.ridge(0, x.of(0, 4) - 1, 1), place);
    }

    /** What README.md shows. */
    private static void exampleOfReadme() {
        CrumpledSheet x = new CrumpledSheet();
        x.feed(0x62726561, 0x6b732035, 0x30300000, 0, 0);
        due("end", x.end(10), 10);
        due("law", x.text(0), 0);
        due("sheet", x.sheet(200, 100, 0, 5), 0);
        int[] broken = {0, 1, 1};
        for (int due : broken) due("press", x.press(0, 20), due);
        due("facets", x.of(0, 3), 3);
        due("long together", x.of(0, 5), 200);
        due("a fault", text(x, LAW, "breaks 50x"), -75);
    }

    public static void main(String[] args) {
        exampleOfReadme();
        p1NewObject();
        p2and3Tape();
        p4Texts();
        p4FaultsOfLawsAndRules();
        p4Limits();
        p4FaultsOfDoingsAndStrips();
        p5Sheet();
        p6Press();
        p6Draws();
        p6Laws();
        p6Total();
        p7Fold();
        p8Turn();
        p9Done();
        p10to12Parts();
        p13to17Lengths();
        p16and17Foretold();
        p18and19Guess();
        p20to23Sizes();
        p24to26Readers();
        p27to29Corners();
        p30and40Strips();
        p31to34Beside();
        p35to37After();
        p38and39Runs();
        p41to43Images();
        p43Draws();
        finish();
    }
}
