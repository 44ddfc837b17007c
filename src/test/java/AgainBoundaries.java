import java.util.function.Supplier;

/** Objects that were used before: nothing is left of what was cut off, was FAULTY, or was gone back from. */
final class AgainBoundaries extends Checks {
    static void run() {
        bytesCutOff();
        faultyLaws();
        otherFaultyTexts();
        manyFaultyTexts();
        wordsOfBothSorts();
        sheetsGoneBackFrom();
        sheetsToldInOnePlace();
        foretoldOfImages();
        ridgesGoneBackFrom();
        largerSheetsAsked();
        cornersOfSeveral();
        bricks();
    }

    // ==== texts

    private static void cut(int sort, String all, int bytes, int want) {
        CrumpledSheet x = new CrumpledSheet();
        tape(x, all);
        x.end(bytes);
        due("'" + all + "' cut to " + bytes, x.text(sort), want);
    }

    private static int unfit(int place) {
        return -2 - (1 + 8 * place);
    }

    private static void bytesCutOff() {
        sentence(3, "The TAPE has its first n bytes alone: n");
        cut(DOING, "turns", 4, 0);
        cut(DOING, "turn?", 4, 0);
        cut(DOING, "turn;turn", 4, 0);
        cut(DOING, "turn;turn", 5, unfit(5));
        cut(DOING, "press      5", 5, unfit(5));
        cut(DOING, "press      5", 7, unfit(7));
        cut(DOING, "press 55", 7, 0);
        cut(DOING, "press 555", 8, 0);
        cut(LAW, "breaks long", 10, unfit(7));
        cut(LAW, "breaks 123456", 12, 0);
        cut(LAW, "breaks 1+2", 9, unfit(9));
        cut(LAW, "breaks 1+2", 8, 0);
        cut(RULE, "see 1<=1", 6, unfit(6));
        cut(RULE, "see 1<=1", 5, unfit(5));
        cut(RULE, "see [1=1]", 8, unfit(8));
        cut(RULE, "see 1=1 or 1=1", 10, unfit(10));
        cut(RULE, "see 1=1 or 1=1", 9, unfit(8));
        cut(STRIP, "5M3V2", 3, 0);
        cut(STRIP, "5M3V2", 2, unfit(2));
        cut(STRIP, "5M3V2", 0, unfit(0));
        CrumpledSheet x = with("breaks 0", 8, 4, 0);
        tape(x, "turn;turn;turn");
        x.end(9);
        due("two of three", x.text(DOING), 0);
        due("two acts", x.done(0, 0), 2);
        tape(x, "press 99");
        x.end(7);
        x.text(DOING);
        x.done(1, 0);
        sentence(4, "The TAPE, which is empty then, is a text");
        due("of a text behind a longer one", text(x, DOING, "turn"), 2);
        due("one act", x.after(2, 0, 0), 1);
        tape(x, " ".repeat(400));
        x.text(DOING);
        feed(x, "press");
        x.end(5);
        due("behind 400 blanks", x.text(DOING), unfit(5));
    }

    private static void faultyLaws() {
        sentence(4, "its number; -2 - its FAULT");
        String[] faulty = {"breaks 1 if 1=2;breaks 44;at 990;soft 1;?", "at 990;at 990;at 990;at 990;breaks 5 5", "soft 1;breaks 900;breaks",
            "breaks 1000" + ";breaks 1000".repeat(12)};
        String[] right = {"breaks 33 if 1=2", "breaks 1000", "breaks 1000 if way=1", "at 500", "soft 40", "breaks 7;at 250 if 1=2"};
        for (String wrong : faulty) {
            for (String law : right) {
                sameAnswers("'" + law + "' behind '" + wrong + "'", () -> lawBehind("", law), () -> lawBehind(wrong, law));
            }
        }
    }

    private static CrumpledSheet lawBehind(String faulty, String law) {
        CrumpledSheet x = new CrumpledSheet();
        text(x, LAW, faulty);
        text(x, LAW, law);
        x.sheet(40, 20, 0, 4);
        x.fold(0, 0, 7);
        press(x, 0, 9, 2);
        return x;
    }

    private static void otherFaultyTexts() {
        sentence(4, "its number; -2 - its FAULT");
        CrumpledSheet x = with("breaks 0", 8, 4, 0);
        x.fold(0, 0, 1);
        text(x, DOING, "turn;fold upright 1;press 5 times 60;?");
        text(x, DOING, "turn");
        due("one act", x.done(0, 0), 1);
        text(x, RULE, "see 1=2;see 1=1;see 1=1;?");
        text(x, RULE, "see 1=2");
        due("none SEEN", x.seen(0, 0, 0), 0);
        text(x, RULE, "miss 1=2;miss 1=1;see 1=1;?");
        text(x, RULE, "miss 1=2");
        due("all SEEN", x.seen(1, 0, 0), 1);
        text(x, STRIP, "5M3V5M3V5?");
        text(x, STRIP, "7");
        dueRow("no FOLDS", i -> x.strip(0, i), 0, 1, 0, 0, 7, NONE);
        text(x, STRIP, "9M1M9M1M9M1M9?");
        text(x, STRIP, "5V4V5");
        dueRow("two FOLDS", i -> x.strip(1, i), 2, 0, 0, 2, 5, 0);
    }

    private static void manyFaultyTexts() {
        sentence(4, "its number; -2 - its FAULT");
        String sixty = "1" + "+1".repeat(57) + "=1";
        CrumpledSheet x = new CrumpledSheet();
        for (int i = 0; i < 10; i++) {
            due("FAULTY", text(x, LAW, "breaks 1 if " + sixty), -2 - (1 + 8 * 128 + 3));
            due("FAULTY", text(x, RULE, "see " + sixty + "?"), unfit(4 + sixty.length()));
        }
        due("the first LAW", text(x, LAW, "breaks 5*long+6 if 1=2 or short=4"), 0);
        due("the first RULE", text(x, RULE, "see length=4 and not 1=2"), 0);
        x.sheet(8, 4, 0, 0);
        x.fold(0, 0, 3);
        due("what it tells", x.expected(0, 1, 1), 31);
        due("what it lets see", x.seen(0, 0, 0), 1);
    }

    private static void wordsOfBothSorts() {
        sentence(4, "of a RULE, of a RIDGE: length, round, used, kind, way, place, ends");
        CrumpledSheet x = new CrumpledSheet();
        for (int i = 0; i < 3; i++) {
            due("a RULE", text(x, RULE, "see length=4 and used=1 and now=0"), i);
            due("a LAW's words in a RULE", text(x, RULE, "see area=4"), unfit(4));
            due("a LAW", text(x, LAW, "breaks long*short+area+tight"), i);
            due("a RULE's words in a LAW", text(x, LAW, "breaks place"), unfit(7));
            due("a DOING", text(x, DOING, "turn"), i);
            due("a STRIP", text(x, STRIP, "5"), i);
        }
        x.sheet(8, 4, 2, 0);
        x.fold(0, 0, 3);
        due("what it tells", x.expected(0, 7, 1), 12 + 12 + 7 + 20 + 20 + 7);
        due("what it lets see", x.seen(2, 0, 0), 1);
    }

    // ==== SHEETS

    private static CrumpledSheet withTexts() {
        CrumpledSheet x = new CrumpledSheet();
        text(x, LAW, "breaks 700;at 300 if way=0;soft 2");
        text(x, LAW, HALVING);
        text(x, DOING, "press 5 times 3;turn;fold level 2");
        text(x, DOING, "press 5 times 2");
        text(x, RULE, "see kind=0");
        x.image(0);
        return x;
    }

    private static void tellSheets(CrumpledSheet x) {
        x.sheet(40, 30, 0, 3);
        x.sheet(9, 13, 0, 4);
        x.sheet(10, 6, 1, 5);
        press(x, 0, 5, 2);
        press(x, 2, 5, 3);
        x.fold(1, 1, 4);
        x.turn(2);
    }

    private static CrumpledSheet withSheets() {
        CrumpledSheet x = withTexts();
        tellSheets(x);
        return x;
    }

    /** As the other one, but told anew where all places had been full of larger SHEETS, each of them asked. */
    private static CrumpledSheet withSheetsAnew() {
        CrumpledSheet x = withTexts();
        for (int i = 0; i < 6; i++) {
            x.sheet(200, 200, 1, 7);
            for (int place = 20; place < 100; place += 20) x.fold(i, i % 2, place);
            press(x, i, 5, 9);
            x.heart(i, 0);
            x.seen(0, i, 2);
            x.corners(i, 0);
            x.after(0, i, 1);
            x.until(i, 5, 1);
        }
        x.back(0);
        tellSheets(x);
        return x;
    }

    private static void sheetsGoneBackFrom() {
        sentence(43, "All is as in an IMAGE: how many SHEETS");
        sameAnswers("behind an IMAGE of nothing", AgainBoundaries::withSheets, AgainBoundaries::withSheetsAnew);
        sameAnswers("behind the same ones, pressed on", AgainBoundaries::withSheets, () -> {
            CrumpledSheet x = withSheets();
            for (int i = 0; i < 3; i++) {
                x.done(0, i);
                x.fold(i, 0, 3);
                press(x, i, 5, 3);
                x.seen(0, i, 2);
            }
            x.back(0);
            tellSheets(x);
            return x;
        });
    }

    private static void tellOthers(CrumpledSheet x) {
        x.sheet(13, 9, 1, 77);
        x.sheet(100, 100, 1, 78);
        x.turn(0);
        press(x, 0, 90, 4);
        press(x, 1, 80, 5);
        x.fold(1, 0, 33);
    }

    /** Two IMAGES of other SHEETS in the same places, made one behind the other, and gone back to. */
    private static void sheetsToldInOnePlace() {
        sentence(43, "IMAGES 0 to 3: all but the TAPE and the texts, as it is; gone back to, it is as it was (these stay)");
        Supplier<CrumpledSheet> lastTold = () -> {
            CrumpledSheet x = withTexts();
            tellOthers(x);
            x.image(1);
            x.back(0);
            tellSheets(x);
            x.image(2);
            return x;
        };
        Supplier<CrumpledSheet> goneBackTo = () -> {
            CrumpledSheet x = withTexts();
            tellSheets(x);
            x.image(2);
            x.back(0);
            tellOthers(x);
            x.image(1);
            x.back(2);
            return x;
        };
        sameAnswers("IMAGES in another order", lastTold, goneBackTo);
    }

    private static void foretoldOfImages() {
        sentence(16, "FORETOLD of a ROUND: EXPECTED as it was ahead of its pressing");
        CrumpledSheet x = with("breaks tight", 9, 9, 0);
        x.image(0);
        press(x, 0, 10, 2);
        int second = x.foretold(0, 2);
        x.image(1);
        x.back(0);
        press(x, 0, 20, 2);
        due("of the other way", x.foretold(0, 1), 20 * 9);
        x.image(2);
        x.back(1);
        due("of an IMAGE", x.foretold(0, 1), 10 * 9);
        due("of an IMAGE", x.foretold(0, 2), second);
        x.back(2);
        due("of the other IMAGE", x.foretold(0, 1), 20 * 9);
        text(x, DOING, "press 50 times 3");
        x.after(0, 0, 0);
        x.until(0, 60, 1);
        x.runs(0, 0, 0, 10, 0);
        due("what would be changes it not", x.foretold(0, 1), 20 * 9);
    }

    /**
     * A SHEET 6 by 8 folded at 2 and 4 with a level RIDGE between, told where there had been one with these acts that
     * had been asked by this RULE.
     */
    private static CrumpledSheet aitchBehind(String acts, String rule) {
        CrumpledSheet x = new CrumpledSheet();
        x.image(0);
        text(x, LAW, "breaks 1000 if edge=2;at 500");
        text(x, DOING, acts);
        text(x, DOING, "fold upright 2;fold upright 4;press 1");
        text(x, RULE, rule);
        text(x, RULE, "see kind=0");
        text(x, RULE, "see 1=2");
        x.sheet(6, 8, 0, 0);
        x.done(0, 0);
        x.seen(0, 0, 2);
        x.back(0);
        x.sheet(6, 8, 0, 0);
        x.done(1, 0);
        return x;
    }

    private static void ridgesGoneBackFrom() {
        String four = "fold upright 4;fold level 1;fold level 7;fold upright 2";
        String inner = "fold upright 1;fold upright 2;fold upright 4;press 1";
        for (String acts : new String[] {four, inner}) {
            for (String rule : new String[] {"see 1=1", "see 1=2"}) {
                sentence(24, "LOOSE: ends of SEEN RIDGES not at the SHEET's edge through which no SEEN RIDGE of the other way goes");
                dueRow("seen", i -> aitchBehind(acts, rule).seen(1, 0, i), 1, 2, 2);
                dueRow("none seen", i -> aitchBehind(acts, rule).seen(2, 0, i), 0, 0, 0);
                sentence(25, "RIDGES not SEEN that go through a LOOSE end of another way so");
                dueRow("right", i -> aitchBehind(acts, rule).right(1, 0, i), 2, 0);
                dueRow("none right", i -> aitchBehind(acts, rule).right(2, 0, i), 0, NOT_THERE);
                sentence(27, "points inside a SHEET (not at its edge) at which a RIDGE ends, or RIDGES of both ways go through");
                due("corners", aitchBehind(acts, rule).corners(0, 3), 2);
            }
        }
    }

    private static void largerSheetsAsked() {
        Supplier<CrumpledSheet> two = () -> {
            CrumpledSheet x = with("breaks 0", 200, 2, 0);
            for (int i = 1; i < 200; i++) x.fold(0, 0, i);
            x.sheet(8, 2, 0, 0);
            for (int i = 1; i < 4; i++) x.fold(1, 0, i);
            x.steps(0, 0, 199);
            return x;
        };
        sentence(33, "STEPS; NONE without these");
        for (int facet = 0; facet < 4; facet++) {
            due("from beyond", two.get().steps(1, 4, facet), NONE);
            due("to beyond", two.get().steps(1, facet, 4), NONE);
            due("from far beyond", two.get().steps(1, 199, facet), NONE);
        }
        sentence(31, "How many FACETS are BESIDE one; NONE without these");
        due("beyond", two.get().beside(1, 4), NONE);
        due("the last one", two.get().beside(1, 3), 1);
        sentence(34, "HEART what 0: the FACET, 1: how many STEPS to the farthest one");
        dueRow("of four", i -> two.get().heart(1, i), 1, 2);
    }

    private static void cornersOfSeveral() {
        sentence(27, "points inside a SHEET (not at its edge) at which a RIDGE ends, or RIDGES of both ways go through");
        CrumpledSheet x = with("breaks 0", 8, 8, 0);
        x.sheet(8, 8, 0, 0);
        x.sheet(20, 20, 0, 0);
        x.fold(0, 0, 4);
        x.fold(1, 1, 4);
        x.fold(2, 1, 8);
        for (int sheet : new int[] {0, 1, 2, 1, 0, 2, 0}) due("each has none of the other ones'", x.corners(sheet, 0), 0);
        x.turn(0);
        x.turn(2);
        for (int sheet : new int[] {0, 1, 2, 1, 0, 2, 0}) due("TURNED", x.corners(sheet, 0), 0);
        x.fold(0, 1, 2);
        x.fold(1, 1, 2);
        x.turn(1);
        for (int sheet : new int[] {0, 1, 2, 1, 0, 2, 0}) due("two folds of one way", x.corners(sheet, 0), 0);
        x.image(0);
        x.fold(0, 0, 4);
        due("across both", x.corners(0, 4), 2);
        x.back(0);
        due("gone back from", x.corners(0, 0), 0);
        due("gone back from", x.flat(0), 1);
    }

    /** 14 rows of bricks, each broken by its own draws: FACETS have up to six and more BESIDE them. */
    private static CrumpledSheet wall() {
        CrumpledSheet x = with("breaks 1000 if long>16", 200, 14, 5);
        for (int i = 1; i < 14; i++) x.fold(0, 1, i);
        press(x, 0, 1, 40);
        return x;
    }

    private static void bricks() {
        sentence(31, "BESIDE: two FACETS of a SHEET whose sides have a piece of 1 at least in common");
        int facets = wall().of(0, 3);
        int[] x = new int[facets];
        int[] y = new int[facets];
        int[] wide = new int[facets];
        CrumpledSheet asked = null;
        for (int f = 0; f < facets; f++) {
            if (f % 100 == 0) asked = wall();
            x[f] = asked.facet(0, f, 0);
            y[f] = asked.facet(0, f, 1);
            wide[f] = asked.facet(0, f, 2);
        }
        int all = 0;
        asked = wall();
        CrumpledSheet walked = wall();
        for (int f = 0; f < facets; f++) {
            int beside = 0;
            for (int g = 0; g < facets; g++) {
                boolean inRow = y[g] == y[f] && (x[g] + wide[g] == x[f] || x[f] + wide[f] == x[g]);
                boolean nextRow = Math.abs(y[g] - y[f]) == 1 && x[g] < x[f] + wide[f] && x[f] < x[g] + wide[g];
                if (inRow || nextRow) beside++;
                if (f == facets - 1 && (inRow || nextRow)) due("steps to brick " + g, walked.steps(0, f, g), 1);
            }
            due("brick " + f, asked.beside(0, f), beside);
            all += beside;
        }
        due("200 bricks", facets, 200);
        due("more than a thousand sides in common", all > 1000, true);
    }
}
