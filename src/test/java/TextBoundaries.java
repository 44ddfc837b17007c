import java.util.function.IntFunction;

/** Promises 2 to 4 and the texts' Terms at their limits. */
final class TextBoundaries extends Checks {
    private static final int UNFIT = 0;
    private static final int BAD_NUMBER = 1;
    private static final int TOO_DEEP = 2;
    private static final int TOO_MANY = 3;
    private static final int CLAUSE_TOO_MANY = 4;

    private static final String[] LAW_WORDS = {"long", "short", "area", "round", "tight", "edge", "way", "total"};
    private static final String[] RULE_WORDS = {"length", "round", "used", "kind", "way", "place", "ends", "now"};

    static void run() {
        bytesOfFeed();
        fullTape();
        endOfTape();
        sortsOfText();
        sixTexts();
        faultsAndTheTape();
        longestTexts();
        clauses();
        softNumbers();
        doingNumbers();
        stripNumbers();
        stripFolds();
        signs();
        numbersAndTheirDigits();
        wordsAndTheirLetters();
        quotients();
        sixtyFourBits();
        blanks();
        brackets();
        values();
        valuesOfAllClauses();
        firstFaults();
        badNumbers();
        leastFaults();
        grammar();
    }

    private static CrumpledSheet taped(String text) {
        CrumpledSheet x = new CrumpledSheet();
        tape(x, text);
        return x;
    }

    private static String blank(int many) {
        return " ".repeat(many);
    }

    /** What breaks tells by such a LAW for a SHEET 8 by 4, pressed 7 tight. */
    private static int told(String law) {
        CrumpledSheet x = with(law, 8, 4, 1);
        return x.expected(0, 7, 1);
    }

    private static void holds(String test, boolean want) {
        due("'" + test + "'", told("breaks 1 if " + test) == 1, want);
    }

    // ==== the TAPE

    private static void bytesOfFeed() {
        sentence(2, "Twenty bytes come behind the TAPE, of each number the highest first: how many it has");
        CrumpledSheet x = with("breaks 0", 9, 9, 0);
        due("onto an empty one", feed(x, "press 1 times 2;turn"), 20);
        due("bytes", x.count(7), 20);
        due("all twenty are read", x.text(DOING), 0);
        due("in their order", x.done(0, 0), 3);
        for (int i = 1; i <= 20; i++) due("feed " + i, feed(x, "12345678901234567890"), 20 * i);
        int[] high = {0xff202020, 0x20ff2020, 0x2020ff20, 0x202020ff, 0x80202020, 0x7f202020};
        int[] places = {4, 5, 6, 7, 4, 4};
        for (int i = 0; i < high.length; i++) {
            CrumpledSheet y = new CrumpledSheet();
            y.feed(0x7475726e, high[i], 0, 0, 0);
            y.end(8);
            due("a byte " + Integer.toHexString(high[i]), y.text(DOING), -2 - (1 + 8 * places[i]));
        }
        CrumpledSheet least = new CrumpledSheet();
        due("numbers at an int's ends", least.feed(MIN, MAX, -1, 0, 1), 20);
    }

    private static void fullTape() {
        sentence(2, "NONE, and none comes, if it would have more than 400");
        IntFunction<CrumpledSheet> of = bytes -> taped("turn" + blank(bytes - 4));
        for (int bytes : new int[] {381, 382, 399, 400}) {
            refused("feed behind " + bytes, NONE, () -> of.apply(bytes), x -> x.feed(-1, -1, -1, -1, -1));
        }
        CrumpledSheet x = of.apply(380);
        due("feed behind 380", feed(x, blank(20)), 400);
        due("bytes", x.count(7), 400);
        due("one more", feed(x, blank(20)), NONE);
        due("as it was", x.text(DOING), 0);
        due("onto the empty one", feed(x, "turn"), 20);
    }

    private static void endOfTape() {
        sentence(3, "The TAPE has its first n bytes alone: n");
        for (int bytes : new int[] {0, 1, 20, 399, 400}) {
            CrumpledSheet all = taped("x".repeat(bytes));
            due("all " + bytes, all.end(bytes), bytes);
            due("bytes", all.count(7), bytes);
            due("none of " + bytes, taped("x".repeat(bytes)).end(0), 0);
        }
        CrumpledSheet x = taped("turnxxxx");
        due("the first four", x.end(4), 4);
        feed(x, ";turn");
        due("what comes, comes behind them", x.end(9), 9);
        due("a text", x.text(DOING), 0);
        sentence(3, "NONE, and nothing happens, if it has not so many, or n is below 0");
        for (int bytes : new int[] {0, 1, 20, 399, 400}) {
            limits("end of " + bytes, 0, bytes, n -> taped("x".repeat(bytes)).end(n));
        }
        for (int n : new int[] {MIN, -1, 5, 20, 400, MAX}) refused("end(" + n + ")", NONE, () -> taped("turn"), x2 -> x2.end(n));
        refused("end of what was cut off", NONE, () -> {
            CrumpledSheet cut = taped("turnxxxx");
            cut.end(4);
            return cut;
        }, cut -> cut.end(8));
    }

    // ==== numbers of texts

    private static void sortsOfText() {
        sentence(4, "NONE, and nothing happens: there are 6, or no such sort");
        limits("text", 0, 3, sort -> taped(A_TEXT_OF_EACH_SORT[sort & 3]).text(sort));
        for (int sort : new int[] {MIN, -1, 4, MAX}) refused("text(" + sort + ")", NONE, () -> taped("turn"), x -> x.text(sort));
        sentence(4, "sort 0: a LAW, 1: a DOING, 2: a RULE, 3: a STRIP: its number");
        for (int told = 0; told < 4; told++) {
            for (int sort = 0; sort < 4; sort++) {
                due("a text of sort " + told + " as " + sort, taped(A_TEXT_OF_EACH_SORT[told]).text(sort), told == sort ? 0 : -3);
            }
        }
    }

    private static void sixTexts() {
        sentence(4, "NONE, and nothing happens: there are 6, or no such sort");
        for (int full = 0; full < 4; full++) {
            int sort = full;
            CrumpledSheet x = new CrumpledSheet();
            for (int i = 0; i < 6; i++) due("text " + i, text(x, sort, A_TEXT_OF_EACH_SORT[sort]), i);
            due("six of it", x.count(1 + sort), 6);
            due("a seventh", text(x, sort, A_TEXT_OF_EACH_SORT[sort]), NONE);
            due("a seventh with a FAULT", text(x, sort, "?"), NONE);
            due("still six", x.count(1 + sort), 6);
            int other = (sort + 1) % 4;
            due("the first of another sort", text(x, other, A_TEXT_OF_EACH_SORT[other]), 0);
            refused("a seventh", NONE, () -> {
                CrumpledSheet y = new CrumpledSheet();
                for (int i = 0; i < 6; i++) text(y, sort, A_TEXT_OF_EACH_SORT[sort]);
                tape(y, A_TEXT_OF_EACH_SORT[other]);
                return y;
            }, y -> y.text(sort));
        }
        sentence(4, "LAWS 0 to 5");
        CrumpledSheet x = new CrumpledSheet();
        for (int i = 0; i < 6; i++) text(x, LAW, "breaks " + (10 + i));
        for (int i = 0; i < 6; i++) x.sheet(2, 2, i, 0);
        dueRow("of LAW", i -> x.expected(i, 1, 1), 10, 11, 12, 13, 14, 15);
        sentence(4, "DOINGS 0 to 5");
        for (int i = 0; i < 6; i++) text(x, DOING, "turn" + ";turn".repeat(i));
        dueRow("acts of DOING", i -> x.after(i, 0, 0), 1, 2, 3, 4, 5, 6, NONE);
        sentence(4, "RULES 0 to 5");
        x.fold(0, 0, 1);
        for (int i = 0; i < 6; i++) text(x, RULE, "see " + i + " = 0 or " + i + " = 5");
        dueRow("seen by RULE", i -> x.seen(i, 0, 0), 1, 0, 0, 0, 0, 1, NONE);
        sentence(4, "STRIPS 0 to 5");
        for (int i = 0; i < 6; i++) text(x, STRIP, "" + (21 + i));
        dueRow("STRIP", i -> x.strip(i, 4), 21, 22, 23, 24, 25, 26, NOT_THERE);
    }

    private static void faultsAndTheTape() {
        sentence(4, "The TAPE, which is empty then, is a text");
        for (int sort = 0; sort < 4; sort++) {
            CrumpledSheet x = taped(A_TEXT_OF_EACH_SORT[sort]);
            x.text(sort);
            due("empty behind a text", x.count(7), 0);
            due("an empty text", x.text(sort), -3);
            tape(x, "?");
            due("a text with a FAULT", x.text(sort), -3);
            due("empty behind a FAULT", x.count(7), 0);
            due("its bytes come first then", feed(x, A_TEXT_OF_EACH_SORT[sort]), 20);
            x.end(A_TEXT_OF_EACH_SORT[sort].length());
            due("a FAULT takes no number", x.text(sort), 1);
            due("two of it", x.count(1 + sort), 2);
        }
        sentence(4, "its number; -2 - its FAULT");
        fault(LAW, "", 0, UNFIT);
        fault(DOING, blank(400), 400, UNFIT);
        due("the least answer", text(new CrumpledSheet(), DOING, blank(400)), -3203);
        CrumpledSheet y = with("breaks 11", 9, 9, 0);
        due("a FAULT behind a good CLAUSE", text(y, LAW, "breaks 22;soft 1;?"), -2 - (1 + 8 * 17));
        due("the one told ahead stays", y.expected(0, 1, 1), 11);
        due("no LAW 1", y.sheet(9, 9, 1, 0), NONE);
        due("the next one", text(y, LAW, "breaks 33"), 1);
        y.sheet(9, 9, 1, 0);
        due("has nothing of the FAULTY one", y.expected(1, 1, 1), 33);
        y.fold(1, 0, 1);
        due("nor its soft", y.of(1, 6), 0);
    }

    // ==== lengths

    private static void longestTexts() {
        sentence(4, "Texts, of at most 400 bytes");
        CrumpledSheet x = new CrumpledSheet();
        String law = "breaks 0 if way=1;" + blank(400 - 18 - 11) + "breaks 1000";
        due("a LAW of 400 bytes", text(x, LAW, law), 0);
        x.sheet(8, 4, 0, 1);
        due("read to its last byte", x.expected(0, 1, 1), 1000);
        due("a DOING of 400 bytes", text(x, DOING, "turn" + blank(391) + ";turn"), 0);
        due("read to its last byte", x.after(0, 0, 0), 2);
        x.fold(0, 0, 1);
        due("a RULE of 400 bytes", text(x, RULE, "see 1=2;" + blank(385) + "see 1=1"), 0);
        due("read to its last byte", x.seen(0, 0, 0), 1);
        due("a STRIP of 400 bytes", text(x, STRIP, "12M" + blank(393) + "9999"), 0);
        due("read to its last byte", x.strip(0, 1), 1);
        due("its last part", x.strip(0, 4), 9999);
        sentence(4, "or the end (behind the last byte)");
        fault(DOING, "turn" + blank(395) + "?", 399, UNFIT);
        fault(DOING, blank(395) + "press", 400, UNFIT);
        fault(DOING, "turn;" + blank(395), 400, UNFIT);
        fault(DOING, blank(1), 1, UNFIT);
        faulty(LAW, "breaks^", UNFIT);
        faulty(LAW, "breaks  ^", UNFIT);
        faulty(RULE, "see^", UNFIT);
        faulty(RULE, "see [ 1 = 1 ^", UNFIT);
        faulty(STRIP, "5 M ^", UNFIT);
    }

    private static void clauses() {
        sentence(4, "CLAUSE { ; CLAUSE }, 12 at most");
        CrumpledSheet x = new CrumpledSheet();
        due("a LAW of twelve", text(x, LAW, "breaks 5 if way=1;".repeat(11) + "breaks 6"), 0);
        x.sheet(8, 4, 0, 0);
        due("the twelfth tells", x.expected(0, 1, 1), 6);
        due("a DOING of twelve", text(x, DOING, "turn;".repeat(11) + "fold upright 3"), 0);
        due("the twelfth is done", x.done(0, 0), 12);
        due("as told", x.ridge(0, 0, 1), 3);
        due("a RULE of twelve", text(x, RULE, "see 1=2;".repeat(11) + "see 1=1"), 0);
        due("the twelfth sees", x.seen(0, 0, 0), 1);
        due("a RULE of twelve", text(x, RULE, "see 1=1;".repeat(11) + "miss 1=1"), 1);
        due("the twelfth misses", x.seen(1, 0, 0), 0);
        fine(LAW, "at 1;".repeat(11) + "soft 5");
        sentence(4, "a thirteenth CLAUSE, a second soft, or a FOLD too many (at its first byte)");
        faulty(LAW, "breaks 1;".repeat(12) + "^breaks 1", CLAUSE_TOO_MANY);
        faulty(LAW, "at 1;".repeat(12) + " ^soft 5", CLAUSE_TOO_MANY);
        faulty(LAW, "at 1;".repeat(12) + "  ^at", CLAUSE_TOO_MANY);
        faulty(LAW, "soft 5;" + "at 1;".repeat(11) + "^soft 0", CLAUSE_TOO_MANY);
        faulty(DOING, "turn;".repeat(12) + "^press 0", CLAUSE_TOO_MANY);
        faulty(DOING, "fold level 1;".repeat(12) + "^fold level 1", CLAUSE_TOO_MANY);
        faulty(DOING, "press 1 times 2;".repeat(12) + "^turn", CLAUSE_TOO_MANY);
        faulty(RULE, "see 1=1;".repeat(12) + "^see 1=1", CLAUSE_TOO_MANY);
        faulty(RULE, "miss 1=1;".repeat(12) + blank(9) + "^miss", CLAUSE_TOO_MANY);
        faulty(DOING, "turn;".repeat(12) + "^turn;turn;?", CLAUSE_TOO_MANY);
        faulty(DOING, "turn;".repeat(12) + "^", UNFIT);
        faulty(DOING, "turn;".repeat(12) + "^;", UNFIT);
        faulty(DOING, "turn;".repeat(12) + "^see", UNFIT);
        faulty(DOING, "turn;".repeat(11) + "turn ^turn", UNFIT);
    }

    // ==== NUMBERS as told

    /** A NUMBER of a text is taken from least to most, and is a FAULT of kind 1 beyond, at the sign ^. */
    private static void told(int sort, String marked, int least, int most) {
        int place = marked.indexOf('^');
        for (int n : new int[] {least, most}) fine(sort, marked.replace("^", "" + n));
        for (int n : new int[] {least - 1, most + 1}) {
            fault(sort, marked.replace("^", "" + n), place, BAD_NUMBER);
        }
        fine(sort, marked.replace("^", String.format("%05d", most)));
        for (String n : new String[] {"000000", "000001", "99999", "65537", "100000", "4294967297"}) {
            fault(sort, marked.replace("^", n), place, BAD_NUMBER);
        }
    }

    private static void softNumbers() {
        sentence(4, "soft NUMBER (1 to 99; once at most; 99 without)");
        told(LAW, "soft ^", 1, 99);
        told(LAW, "breaks 1;soft ^ ;at 1", 1, 99);
        faulty(LAW, "soft 1;^soft 1", CLAUSE_TOO_MANY);
        faulty(LAW, "soft 1;breaks 1; ^soft 0", CLAUSE_TOO_MANY);
        faulty(LAW, "soft 1;^soft", CLAUSE_TOO_MANY);
        faulty(LAW, "soft ^0;soft 1", BAD_NUMBER);
        faulty(LAW, "soft ^;soft 1", UNFIT);
        faulty(LAW, "soft ^long", UNFIT);
        faulty(LAW, "soft 5 ^if 1=1", UNFIT);
        faulty(LAW, "soft 5^+1", UNFIT);
        int[][] soft = {{60, 1}, {61, 1}, {62, 0}, {99, 0}};
        for (int[] s : soft) {
            CrumpledSheet x = with("breaks 0;soft " + s[0], 4, 6, 0);
            x.fold(0, 0, 2);
            press(x, 0, 1, 60);
            due("USED 61, soft from " + s[0], x.of(0, 6), s[1]);
        }
        CrumpledSheet x = with("breaks 0", 4, 6, 0);
        x.fold(0, 0, 2);
        press(x, 0, 1, 60);
        due("USED 61, without", x.of(0, 6), 0);
        CrumpledSheet one = with("breaks 0;soft 1", 4, 6, 0);
        one.fold(0, 0, 2);
        due("USED 1, soft from 1", one.of(0, 6), 1);
        CrumpledSheet two = with("breaks 0;soft 2", 4, 6, 0);
        two.fold(0, 0, 2);
        due("USED 1, soft from 2", two.of(0, 6), 0);
        two.press(0, 1);
        due("USED 2, soft from 2", two.of(0, 6), 1);
    }

    private static void doingNumbers() {
        sentence(4, "press NUMBER [ times NUMBER ] (1 to 99; 1 to 60)");
        told(DOING, "press ^", 1, 99);
        told(DOING, "press ^ times 3", 1, 99);
        told(DOING, "press 3 times ^", 1, 60);
        faulty(DOING, "press 3 times^", UNFIT);
        faulty(DOING, "press ^times 3", UNFIT);
        faulty(DOING, "press 3 ^3", UNFIT);
        faulty(DOING, "press 3 times 3 ^times 3", UNFIT);
        faulty(DOING, "press 3 ^time 3", UNFIT);
        CrumpledSheet x = with("breaks tight", 9, 9, 0);
        text(x, DOING, "press 99 times 60");
        text(x, DOING, "press 1 times 1");
        due("sixty times", x.after(0, 0, 0), 60);
        due("once", x.done(1, 0), 1);
        due("so tight", x.foretold(0, 1), 9);
        due("so often", x.done(0, 0), 59);
        due("so tight", x.foretold(0, 2) % 99, 0);
        sentence(4, "fold WAY NUMBER (1 to 199)");
        told(DOING, "fold upright ^", 1, 199);
        told(DOING, "fold level ^", 1, 199);
        CrumpledSheet y = with("breaks 0", 200, 200, 0);
        text(y, DOING, "fold upright 1;fold upright 199;fold level 1;fold level 199");
        due("folded at the least and the greatest", y.done(0, 0), 4);
        sentence(4, "WAY: upright, level");
        due("upright", y.ridge(0, 1, 0), 0);
        due("level", y.ridge(0, 3, 0), 1);
        faulty(DOING, "fold ^1", UNFIT);
        faulty(DOING, "fold ^up 1", UNFIT);
        faulty(DOING, "fold ^levels 1", UNFIT);
        faulty(DOING, "fold ^", UNFIT);
        faulty(DOING, "fold upright ^level 1", UNFIT);
        faulty(DOING, "fold level^", UNFIT);
        faulty(DOING, "turn ^1", UNFIT);
    }

    private static void stripNumbers() {
        sentence(4, "NUMBER { FOLD NUMBER } (one CLAUSE alone, 20 FOLDS at most, 1 to 9999 each)");
        told(STRIP, "^", 1, 9999);
        told(STRIP, "^M5", 1, 9999);
        told(STRIP, "5V^", 1, 9999);
        told(STRIP, "5 V ^ M 5", 1, 9999);
        told(STRIP, "1M".repeat(20) + "^", 1, 9999);
        faulty(STRIP, "5^;", UNFIT);
        faulty(STRIP, "5 M 5 ^;5", UNFIT);
        faulty(STRIP, "^;", UNFIT);
        faulty(STRIP, "5 ^5", UNFIT);
        faulty(STRIP, "^M 5", UNFIT);
        faulty(STRIP, "5 M ^V 5", UNFIT);
        faulty(STRIP, "^", UNFIT);
        faulty(STRIP, "5^+5", UNFIT);
        sentence(4, "FOLD: M or V");
        for (char fold : new char[] {'M', 'V'}) fine(STRIP, "5" + fold + "5");
        for (char no : "mvLNUWmv[@".toCharArray()) faulty(STRIP, "5 ^" + no + " 5", UNFIT);
        CrumpledSheet x = new CrumpledSheet();
        text(x, STRIP, "2M1V2");
        text(x, STRIP, "2V1V2");
        due("M and V are unlike", x.strip(0, 1), 1);
        due("V and V are not", x.strip(1, 1), 0);
    }

    private static void stripFolds() {
        sentence(4, "20 FOLDS at most");
        CrumpledSheet x = new CrumpledSheet();
        due("without any", text(x, STRIP, "7"), 0);
        due("of twenty", text(x, STRIP, "1M".repeat(19) + "1V2"), 1);
        due("none", x.strip(0, 0), 0);
        due("twenty", x.strip(1, 0), 20);
        sentence(4, "a thirteenth CLAUSE, a second soft, or a FOLD too many (at its first byte)");
        faulty(STRIP, "1M".repeat(20) + "1^M1", CLAUSE_TOO_MANY);
        faulty(STRIP, "1M".repeat(20) + "1 ^V", CLAUSE_TOO_MANY);
        faulty(STRIP, "1 M ".repeat(20) + "1  ^M0", CLAUSE_TOO_MANY);
        faulty(STRIP, "1M".repeat(20) + "1^V1V1?", CLAUSE_TOO_MANY);
        faulty(STRIP, "1M".repeat(20) + "^M1", UNFIT);
        faulty(STRIP, "1M".repeat(20) + "1^m1", UNFIT);
        faulty(STRIP, "1M".repeat(20) + "1^;", UNFIT);
    }

    // ==== SUMS and TESTS

    private static void signs() {
        sentence(4, "SIGN one of < <= = >= >");
        String[] signs = {"<", "<=", "=", ">=", ">"};
        boolean[][] want = {{true, false, false}, {true, true, false}, {false, true, false}, {false, true, true}, {false, false, true}};
        for (int i = 0; i < signs.length; i++) {
            for (int left = 6; left <= 8; left++) {
                String fact = left + signs[i] + "7";
                boolean held = want[i][left - 6];
                holds(fact, held);
                holds("not " + fact, !held);
                holds("not not " + fact, held);
                holds("1=1 and " + fact, held);
                holds("1=2 or " + fact, held);
                holds("1=1 or " + fact, true);
                holds("1=2 and " + fact, false);
            }
        }
        faulty(RULE, "see 1 = ^= 1", UNFIT);
        faulty(RULE, "see 1=^<1", UNFIT);
        faulty(RULE, "see 1=^>1", UNFIT);
        faulty(RULE, "see 1<^>1", UNFIT);
        faulty(RULE, "see 1>^<1", UNFIT);
        faulty(RULE, "see 1<^<1", UNFIT);
        faulty(RULE, "see 1<=^=1", UNFIT);
        faulty(RULE, "see 1< ^=1", UNFIT);
        faulty(RULE, "see 1> ^=1", UNFIT);
        faulty(RULE, "see 1^!1", UNFIT);
        faulty(RULE, "see 1 ^;", UNFIT);
        faulty(RULE, "see 1=1^=1", UNFIT);
        faulty(RULE, "see 1<=^", UNFIT);
        faulty(RULE, "see 1^", UNFIT);
    }

    private static void numbersAndTheirDigits() {
        sentence(4, "NUMBER (1 to 5 digits, as far as digits go on)");
        String[] fine = {"0", "9", "00000", "00007", "99999"};
        for (String n : fine) fine(LAW, "breaks " + n);
        due("zeros ahead", told("breaks 00123"), 123);
        holds("99999 = 100*1000-1", true);
        faulty(LAW, "breaks ^000000", BAD_NUMBER);
        faulty(LAW, "breaks ^000001+1", BAD_NUMBER);
        faulty(LAW, "breaks ^100000", BAD_NUMBER);
        faulty(LAW, "breaks ^4294967296", BAD_NUMBER);
        faulty(LAW, "breaks ^" + "9".repeat(393), BAD_NUMBER);
        faulty(LAW, "breaks 1+^123456?", BAD_NUMBER);
        faulty(LAW, "breaks ^/1", UNFIT);
        faulty(LAW, "breaks ^:1", UNFIT);
        faulty(LAW, "breaks 1^:1", UNFIT);
        faulty(LAW, "breaks 1 ^1", UNFIT);
        faulty(LAW, "breaks 1^.5", UNFIT);
        faulty(LAW, "breaks ^-1", UNFIT);
        faulty(LAW, "breaks ^+1", UNFIT);
        fine(LAW, "breaks 1if 1=1");
        faulty(LAW, "breaks 1^x", UNFIT);
    }

    private static void wordsAndTheirLetters() {
        sentence(4, "WORD. WORDS (small letters, as far as these go on)");
        for (String word : LAW_WORDS) {
            fine(LAW, "breaks " + word);
            fine(LAW, "breaks 1 if " + word + "<1");
            faulty(LAW, "breaks ^" + word + "s", UNFIT);
            faulty(LAW, "breaks ^x" + word, UNFIT);
            faulty(LAW, "breaks ^" + word.substring(0, word.length() - 1), UNFIT);
            faulty(LAW, "breaks ^" + word.substring(1), UNFIT);
            faulty(LAW, "breaks ^" + word.toUpperCase(), UNFIT);
            faulty(LAW, "breaks " + word + "^`", UNFIT);
            faulty(LAW, "breaks " + word + "^{", UNFIT);
            faulty(LAW, "breaks " + word + "^Z", UNFIT);
            faulty(LAW, "breaks " + word + "^_", UNFIT);
            faulty(LAW, "breaks " + word + "^7", UNFIT);
        }
        for (String word : RULE_WORDS) {
            fine(RULE, "see " + word + "<1");
            fine(RULE, "miss 1=" + word);
            faulty(RULE, "see ^" + word + "s<1", UNFIT);
            faulty(RULE, "see ^" + word.substring(0, word.length() - 1) + "<1", UNFIT);
        }
        for (String word : new String[] {"long", "short", "area", "tight", "edge", "total", "not", "if"}) {
            faulty(RULE, "see 1=^" + word, UNFIT);
        }
        for (String word : new String[] {"length", "used", "kind", "place", "ends", "now", "not", "and", "soft", "z", "a"}) {
            faulty(LAW, "breaks 1+^" + word, UNFIT);
        }
        String[] clauseWords = {"^break 1", "^breaksat 1", "^Breaks 1", "^see 1=1", "^a 1", "^ats 1", "^sof 1", "^softs 1"};
        for (String text : clauseWords) faulty(LAW, text, UNFIT);
        fine(LAW, "breaks5if1=1;at5;soft5");
        faulty(LAW, "breaks5^iffy1=1", UNFIT);
        faulty(LAW, "breaks5if1=1^andy1=1", UNFIT);
        faulty(LAW, "breaks5if1=1^ory1=1", UNFIT);
        faulty(LAW, "breaks5if ^nots1=1", UNFIT);
        faulty(DOING, "^turns", UNFIT);
        faulty(DOING, "turn^S", UNFIT);
        faulty(DOING, "turn^2", UNFIT);
        faulty(DOING, "turn^`", UNFIT);
        faulty(DOING, "turn^{", UNFIT);
        faulty(DOING, "^`turn", UNFIT);
        faulty(DOING, "^{turn", UNFIT);
    }

    private static void quotients() {
        sentence(4, "/ is towards 0, 0 by 0");
        holds("7/2=3 and 8/2=4 and 1/2=0 and 99999/99999=1 and 99998/99999=0", true);
        holds("0-7/2=0-3", true);
        holds("7/0=0 and 0/0=0 and 7/0+5=5 and 7/0*9=0", true);
        holds("7/2*2=6 and 7*2/2=7 and 2*7/4=3 and 100/5/2=10", true);
        // gone round below 0: only there downwards and towards 0 are not the same
        holds("65536*65536*65536*32769/65536/65536/65536=0-32767", true);
        holds("65536*65536*65536*32769/65536/65536/65535=0-32767", true);
        holds("65536*65536*65536*32769/65536/65535/65536=0-32767", true);
    }

    private static void sixtyFourBits() {
        sentence(4, "all goes round in 64 bits");
        String edge = "65536*65536*65536*32768";
        holds(edge + "<0", true);
        holds(edge + "-1>0", true);
        holds(edge + "-1+1<0", true);
        holds(edge + "+" + edge + "=0", true);
        holds("65536*65536*65536*65536=0", true);
        holds("65536*65536*65536*16384>0", true);
        holds("65536*65536*65536*16384*2=" + edge, true);
        holds("99999*99999*99999*99999>0 and 99999*99999*99999*99999/99999<99999*99999*99999", true);
        holds("65536*32768=21474*50000*2+83648", true);
        holds("65536*32768>0 and 65536*65536>0 and 65536*65536*65536>0", true);
        holds("0-65536*32768<0 and 0-65536*65536<0 and 0-1<0", true);
    }

    private static void blanks() {
        sentence(4, "Blanks (32) stand between as one likes");
        fine(LAW, "breaks1000if[long=8]and not way=1or 1=1;at5;soft2");
        fine(LAW, "   breaks   1000   if   [   long   =   8   ]   ;   at   5   *   2   ;   soft   2   ");
        fine(DOING, "  press  5  times  2  ;  fold  upright  3  ;  turn  ");
        fine(DOING, "press5times2;fold upright3;turn");
        fine(RULE, "  see  not  [  1  <=  now  ]  or  1  >=  2  ;  miss  1  >  ends  ");
        fine(STRIP, "  5  M  3  V  2  ");
        fine(STRIP, "5M3V2");
        faulty(LAW, "^bre aks 5", UNFIT);
        faulty(LAW, "breaks 1 ^0", UNFIT);
        faulty(LAW, "breaks ^lo ng", UNFIT);
        faulty(DOING, "fold ^uprightlevel 5", UNFIT);
        for (int sign : new int[] {0, 9, 10, 13, 31, 33, 127, 128, 160, 255}) {
            faulty(DOING, "turn^" + (char) sign + ";turn", UNFIT);
            faulty(DOING, "^" + (char) sign + "turn", UNFIT);
            faulty(STRIP, "5^" + (char) sign, UNFIT);
            faulty(RULE, "see 1^" + (char) sign + "=1", UNFIT);
        }
    }

    private static void brackets() {
        sentence(4, "[ and not lie within one another 10 deep at most");
        String ten = "[".repeat(10);
        String shut = "]".repeat(10);
        fine(RULE, "see " + ten + "1=1" + shut);
        fine(LAW, "breaks 1 if " + ten + "1=1" + shut);
        fine(RULE, "miss " + "not ".repeat(10) + "1=1");
        fine(RULE, "see " + "not [".repeat(5) + "1=1" + "]".repeat(5));
        fine(RULE, "see " + "[ not ".repeat(5) + "1=1" + "]".repeat(5));
        fine(RULE, "see " + ten + "1=1" + shut + " and " + ten + "1=1" + shut + " or " + "not ".repeat(10) + "1=1");
        fine(RULE, "see " + "[1=1] and ".repeat(11) + "[1=1]");
        fine(RULE, "see " + "not 1=1 and ".repeat(11) + "not 1=1");
        fine(RULE, "see " + "not [".repeat(5) + "1=1" + "]".repeat(5) + " and " + ten + "1=1" + shut);
        fine(RULE, "see not not not not not [" + "[".repeat(4) + "1=1" + "]".repeat(4) + " and [[[[1=1]]]]]");
        holds("not ".repeat(10) + "1=1", true);
        holds("not ".repeat(9) + "1=1", false);
        holds("[not ".repeat(5) + "1=2" + "]".repeat(5), true);
        sentence(4, "2 too deep (at the sign that opens, or the word not)");
        faulty(RULE, "see " + ten + "^[1=1]" + shut, TOO_DEEP);
        faulty(LAW, "at 1 if " + ten + " ^[1=1]" + shut, TOO_DEEP);
        faulty(RULE, "see " + ten + "^not 1=1" + shut, TOO_DEEP);
        faulty(RULE, "see " + "not ".repeat(10) + "^not 1=1", TOO_DEEP);
        faulty(RULE, "miss " + "not ".repeat(10) + "^[1=1]", TOO_DEEP);
        faulty(RULE, "see " + "not [".repeat(5) + "^not 1=1" + "]".repeat(5), TOO_DEEP);
        faulty(RULE, "see " + "[ not ".repeat(5) + " ^[1=1]" + "]".repeat(5), TOO_DEEP);
        faulty(RULE, "see " + ten + "1=1 and ^[1=1]" + shut, TOO_DEEP);
        faulty(RULE, "see " + ten + "1=1 or ^not 1=1" + shut, TOO_DEEP);
        faulty(RULE, "see 1=1;see 1=1 and " + ten + "^[", TOO_DEEP);
        faulty(RULE, "see " + ten + "^[?", TOO_DEEP);
        faulty(RULE, "see " + ten + "^nots", UNFIT);
        faulty(RULE, "see " + ten + "^]", UNFIT);
        faulty(RULE, "see " + ten + "1=1" + "]".repeat(9) + "^", UNFIT);
        faulty(RULE, "see " + ten + "1=1" + shut + "^]", UNFIT);
        faulty(RULE, "see [1=1] ^[1=1]", UNFIT);
        faulty(RULE, "see [^]", UNFIT);
        faulty(RULE, "see 1=^[1]", UNFIT);
        faulty(RULE, "see [1^]=1", UNFIT);
    }

    private static void values() {
        sentence(4, "at most 60 VALUES (of SUMS) and FACTS made of a SIGN, together");
        fine(LAW, "breaks 1" + "+1".repeat(59));
        due("all sixty count", told("breaks 1" + "+1".repeat(59)), 60);
        due("all sixty count", told("breaks 0+long" + "+way*long".repeat(29)), 8);
        fine(RULE, "see 1=1" + " and 1=1".repeat(19));
        fine(RULE, "see 1" + "+1".repeat(28) + "=1" + "+1".repeat(29));
        fine(RULE, "see " + "[".repeat(10) + "1" + "+1".repeat(57) + "=1" + "]".repeat(10));
        fine(RULE, "see " + "not ".repeat(10) + "1" + "*now".repeat(57) + "=1");
        sentence(4, "3 one VALUE or FACT too many (at its first byte; of a FACT at its SIGN)");
        faulty(LAW, "breaks 1" + "+1".repeat(59) + "+^1", TOO_MANY);
        faulty(LAW, "breaks 1" + "+1".repeat(59) + " * ^99999", TOO_MANY);
        faulty(LAW, "breaks 1" + "+1".repeat(59) + " - ^total", TOO_MANY);
        faulty(LAW, "breaks 1" + "/1".repeat(59) + " /  ^long", TOO_MANY);
        faulty(RULE, "see 1" + "+1".repeat(57) + "=1+^1", TOO_MANY);
        faulty(RULE, "see 1" + "+1".repeat(58) + "=^1", TOO_MANY);
        faulty(RULE, "see 1" + "+1".repeat(58) + "= ^now", TOO_MANY);
        faulty(RULE, "see 1" + "+1".repeat(59) + "^=1", TOO_MANY);
        faulty(RULE, "see 1" + "+1".repeat(59) + " ^<=1", TOO_MANY);
        faulty(RULE, "see 1" + "+1".repeat(59) + "  ^>  1", TOO_MANY);
        faulty(RULE, "see 1=1" + " and 1=1".repeat(19) + " and ^1=1", TOO_MANY);
        faulty(RULE, "see 1=1" + " or 1=1".repeat(19) + " or ^1", TOO_MANY);
        faulty(RULE, "see 1+1=1" + " or 1=1".repeat(18) + " or 1=^1", TOO_MANY);
        faulty(RULE, "see 1+1+1=1" + " or 1=1".repeat(18) + " or 1^=1", TOO_MANY);
    }

    private static void valuesOfAllClauses() {
        sentence(4, "at most 60 VALUES (of SUMS) and FACTS made of a SIGN, together");
        fine(LAW, "breaks 1" + "+1".repeat(29) + ";at 1" + "+1".repeat(26) + " if 1=1");
        faulty(LAW, "breaks 1" + "+1".repeat(29) + ";at 1" + "+1".repeat(27) + " if 1=^1", TOO_MANY);
        faulty(LAW, "breaks 1" + "+1".repeat(29) + ";at 1" + "+1".repeat(28) + " if 1^=1", TOO_MANY);
        faulty(LAW, "breaks 1" + "+1".repeat(29) + ";at 1" + "+1".repeat(29) + " if ^1=1", TOO_MANY);
        faulty(LAW, "breaks 1" + "+1".repeat(29) + ";at 1" + "+1".repeat(29) + ";at ^1", TOO_MANY);
        fine(LAW, "soft 5;breaks 1" + "+1".repeat(59));
        fine(LAW, "breaks 1" + "+1".repeat(59) + ";soft 5");
        faulty(RULE, "see 1=1;miss 1" + "+1".repeat(55) + "=^1", TOO_MANY);
        fine(RULE, "see 1=1;miss 1" + "+1".repeat(54) + "=1");
        CrumpledSheet x = new CrumpledSheet();
        for (int i = 0; i < 3; i++) due("sixty in each text", text(x, LAW, "breaks 1" + "+1".repeat(59)), i);
        text(x, LAW, "breaks 1" + "+1".repeat(60));
        due("a text begins at none", text(x, LAW, "breaks 1" + "+1".repeat(59)), 3);
    }

    // ==== FAULTS

    private static void firstFaults() {
        sentence(4, "FAULTS, the first along the text, 1 + 8 * its place");
        faulty(LAW, "^?soft 0", UNFIT);
        faulty(LAW, "soft ^0;?", BAD_NUMBER);
        faulty(LAW, "soft 1;^soft 0;?", CLAUSE_TOO_MANY);
        faulty(LAW, "breaks ^123456;soft 0", BAD_NUMBER);
        faulty(LAW, "breaks ^x;soft 0", UNFIT);
        faulty(LAW, "breaks 1" + "+1".repeat(59) + "+^1;?", TOO_MANY);
        faulty(LAW, "breaks 1" + "+1".repeat(58) + "+^x+1", UNFIT);
        faulty(RULE, "see " + "[".repeat(10) + "^[?", TOO_DEEP);
        faulty(RULE, "see " + "[".repeat(9) + "^?[[1=1", UNFIT);
        faulty(DOING, "turn;".repeat(11) + "^turm;turn", UNFIT);
        faulty(DOING, "turn;".repeat(11) + "press ^0;turn", BAD_NUMBER);
        faulty(DOING, "turn;".repeat(12) + "^press 0", CLAUSE_TOO_MANY);
        faulty(STRIP, "1M".repeat(19) + "1M^0M1", BAD_NUMBER);
        faulty(STRIP, "1M".repeat(20) + "1^M0", CLAUSE_TOO_MANY);
        faulty(STRIP, "^0M?", BAD_NUMBER);
        faulty(DOING, "press ^0 times 0", BAD_NUMBER);
        faulty(DOING, "fold ^middle 0", UNFIT);
        due("at place 0", text(new CrumpledSheet(), STRIP, "0"), -2 - 2);
    }

    private static void badNumbers() {
        sentence(4, "1 a NUMBER of more digits, or not as told");
        faulty(LAW, "soft ^100", BAD_NUMBER);
        faulty(LAW, "soft ^000001", BAD_NUMBER);
        faulty(LAW, "breaks ^100000", BAD_NUMBER);
        faulty(LAW, "breaks 1 if 1=^100000", BAD_NUMBER);
        faulty(RULE, "see ^0000000000<1", BAD_NUMBER);
        faulty(DOING, "press ^0", BAD_NUMBER);
        faulty(DOING, "press 1 times  ^61 ;?", BAD_NUMBER);
        faulty(DOING, "fold level ^200", BAD_NUMBER);
        faulty(STRIP, "^0", BAD_NUMBER);
        faulty(STRIP, "5 M ^10000 V", BAD_NUMBER);
    }

    private static void leastFaults() {
        sentence(4, "Of one place the least");
        String sixty = "1" + "+1".repeat(59);
        faulty(LAW, "breaks " + sixty + "+^x", UNFIT);
        faulty(LAW, "breaks " + sixty + "+^", UNFIT);
        faulty(LAW, "breaks " + sixty + "+^;", UNFIT);
        faulty(LAW, "breaks " + sixty + "+^123456", BAD_NUMBER);
        faulty(RULE, "see " + sixty + "^", UNFIT);
        faulty(RULE, "see " + sixty + "^?1", UNFIT);
        faulty(RULE, "see " + sixty + " ^and 1=1", UNFIT);
        faulty(LAW, "at 1;".repeat(12) + "^?", UNFIT);
        faulty(LAW, "soft 1;^softs 1", UNFIT);
        faulty(LAW, "soft 1;" + "at 1;".repeat(11) + "^soft 1", CLAUSE_TOO_MANY);
    }

    private static void grammar() {
        sentence(4, "0 a byte or WORD that can't stand there");
        String[] laws = {"^;", "^;breaks 1", "breaks 1;^;at 1", "breaks 1;^", "breaks^;", "breaks ^if 1=1", "breaks 1 if^",
            "breaks 1 if ^;", "breaks 1 if 1=1 ^if 1=1", "breaks 1 ^and 1=1", "breaks 1+^", "breaks 1+^+1", "breaks 1*^/1",
            "breaks 1 ^at 1", "breaks ^[1]", "breaks 1^]", "breaks 1 if 1=1 ^1=1", "breaks 1 if 1=1 and^",
            "breaks 1 if 1=1 or ^or 1=1", "breaks 1 if not^", "breaks 1 if ^and", "breaks 1 if [1=1 ^;", "breaks 1 if 1+^=1",
            "breaks 1 if 1=^", "breaks 1 if 1^and 1=1", "breaks 1 if ^=1", "breaks 1 ^, at 1", "^#", "^1"};
        for (String law : laws) faulty(LAW, law, UNFIT);
        String[] rules = {"see^", "^1=1", "see ^see 1=1", "see 1=1 ^miss 1=1", "see 1=1;^", "miss^", "see 1=1 ^if 1=1", "^not 1=1"};
        for (String rule : rules) faulty(RULE, rule, UNFIT);
        String[] doings = {"press^", "press ^x", "^5", "turn ^turn", "press 1 ^fold level 1", "turn;^;turn", "^times 3"};
        for (String doing : doings) faulty(DOING, doing, UNFIT);
    }
}
