import java.util.function.IntFunction;
import java.util.function.IntUnaryOperator;

/** The numbers of SHEETS and texts that each promise takes: all places full, one told, none told. */
final class FaceBoundaries extends Checks {
    private static final String WITHOUT_THESE = "NONE without these";
    private static final String WITHOUT_IT = "NONE without it";

    /** A call with one number of which the limits are sought, on an object told so far. */
    private interface Call {
        int answer(CrumpledSheet x, int n);
    }

    static void run() {
        ofSheets();
        ofSheetsBeside();
        ofDoings();
        ofRulesAndStrips();
        withoutSheets();
        behindBack();
    }

    /** So many texts of each sort and so many SHEETS, pressed twice. */
    private static CrumpledSheet told(int texts, int sheets) {
        String[] each = {"breaks 1000;at 500", "press 1", "see 1=1", "2M1V2"};
        CrumpledSheet x = new CrumpledSheet();
        for (int sort = 0; sort < 4; sort++) {
            for (int i = 0; i < texts; i++) text(x, sort, each[sort]);
        }
        for (int i = 0; i < sheets; i++) {
            x.sheet(8, 4, 0, i);
            press(x, i, 1, 2);
        }
        return x;
    }

    private static void limitsOf(int promise, String words, String call, int refusal, IntFunction<IntUnaryOperator> withSo) {
        sentence(promise, words);
        for (int so : new int[] {1, 2, 6}) limits(call + " of " + so, 0, so - 1, refusal, withSo.apply(so));
        for (int n : new int[] {MIN, -1, 0, 1, 5, 6, MAX}) due(call + " of none, " + n, withSo.apply(0).applyAsInt(n), refusal);
    }

    private static void sheets(int promise, String words, String name, Call call) {
        limitsOf(promise, words, name, NONE, sheets -> sheet -> call.answer(told(1, sheets), sheet));
    }

    private static void texts(int promise, String words, String name, int refusal, Call call) {
        limitsOf(promise, words, name, refusal, texts -> n -> call.answer(told(texts, Math.min(texts, 1)), n));
    }

    private static void ofSheets() {
        sheets(6, "without these, or if there are 60 ROUNDS", "press", (x, s) -> x.press(s, 1));
        sheets(7, "without these, or if it can't be", "fold", (x, s) -> x.fold(s, 0, 1));
        sheets(8, "TURNED: true; false without it", "turn", (x, s) -> x.turn(s) ? 1 : NONE);
        sheets(9, WITHOUT_THESE, "done", (x, s) -> x.done(0, s));
        sheets(10, WITHOUT_THESE, "facet", (x, s) -> x.facet(s, 0, 0));
        sheets(11, WITHOUT_THESE, "ridge", (x, s) -> x.ridge(s, 0, 0));
        sheets(12, WITHOUT_THESE, "of", (x, s) -> x.of(s, 0));
        sheets(13, WITHOUT_THESE, "length", (x, s) -> x.length(s, 0));
        sheets(14, WITHOUT_THESE, "adds", (x, s) -> x.adds(s, 0));
        sheets(15, WITHOUT_THESE, "expected", (x, s) -> x.expected(s, 1, 0));
        sheets(16, WITHOUT_THESE, "foretold", (x, s) -> x.foretold(s, 1));
        sheets(17, "NONE without these (from 1, to not above its ROUND, not below from)", "miss", (x, s) -> x.miss(s, 1, 2));
        sheets(19, WITHOUT_THESE, "curve", (x, s) -> x.curve(s, 0));
        sheets(20, WITHOUT_THESE, "sizes", (x, s) -> x.sizes(s, 0));
        sheets(21, WITHOUT_THESE, "classes", (x, s) -> x.classes(s, 0));
        sheets(23, WITHOUT_IT, "likest", (x, s) -> x.likest(s));
        sheets(24, WITHOUT_THESE, "seen", (x, s) -> x.seen(0, s, 0));
        sheets(25, WITHOUT_THESE, "right", (x, s) -> x.right(0, s, 0));
        sheets(26, WITHOUT_THESE, "often", (x, s) -> x.often(0, s, 0));
        sheets(26, "NONE without these (the other may be the same)", "often by", (x, s) -> x.often(0, 0, s));
        sheets(27, WITHOUT_THESE, "corners", (x, s) -> x.corners(s, 0));
        sheets(28, WITHOUT_IT, "flat", (x, s) -> x.flat(s));
        sheets(29, WITHOUT_THESE, "strength", (x, s) -> x.strength(s, 1));
        sheets(31, WITHOUT_THESE, "beside", (x, s) -> x.beside(s, 0));
        sheets(32, WITHOUT_IT, "most", (x, s) -> x.most(s));
        sheets(33, WITHOUT_THESE, "steps", (x, s) -> x.steps(s, 0, 0));
        sheets(34, WITHOUT_THESE, "heart", (x, s) -> x.heart(s, 0));
        sheets(35, WITHOUT_THESE, "after", (x, s) -> x.after(0, s, 0));
        sheets(36, WITHOUT_THESE, "alike", (x, s) -> x.alike(s, 0));
        sheets(37, WITHOUT_IT, "which", (x, s) -> x.which(s));
        sheets(38, WITHOUT_THESE, "runs", (x, s) -> x.runs(0, s, 0, 1, 0));
        sheets(39, WITHOUT_THESE, "until", (x, s) -> x.until(s, 1, 1));
    }

    /** Of six SHEETS each by each other one is taken, none by itself. */
    private static void ofSheetsBeside() {
        for (int mine = 0; mine < 6; mine++) {
            int sheet = mine;
            for (int other = -1; other <= 6; other++) {
                boolean taken = other >= 0 && other < 6 && other != sheet;
                sentence(18, "GUESS; -2: the other's ROUND is 0; NONE without these (unlike)");
                due("guess by " + other, told(1, 6).guess(sheet, other), taken ? 8 : NONE);
                due("guess for " + other, told(1, 6).guess(other, sheet), taken ? 8 : NONE);
                sentence(22, "APART; NONE without these (unlike)");
                due("apart from " + other, told(1, 6).apart(sheet, other), taken ? 0 : NONE);
                due("apart of " + other, told(1, 6).apart(other, sheet), taken ? 0 : NONE);
            }
        }
        for (int far : new int[] {MIN, 7, 65536, MAX}) {
            due("apart", told(1, 6).apart(0, far), NONE);
            due("apart", told(1, 6).apart(far, far), NONE);
            sentence(18, "GUESS; -2: the other's ROUND is 0; NONE without these (unlike)");
            due("guess", told(1, 6).guess(far, 0), NONE);
            due("guess", told(1, 6).guess(far, far), NONE);
        }
    }

    private static void ofDoings() {
        texts(5, "something is not as told", "sheet by law", NONE, (x, n) -> x.sheet(4, 4, n, 0));
        texts(9, WITHOUT_THESE, "done", NONE, (x, n) -> x.done(n, 0));
        texts(35, WITHOUT_THESE, "after", NONE, (x, n) -> x.after(n, 0, 0));
        texts(36, WITHOUT_THESE, "alike", NONE, (x, n) -> x.alike(0, n));
        texts(38, WITHOUT_THESE, "runs", NONE, (x, n) -> x.runs(n, 0, 0, 1, 0));
    }

    private static void ofRulesAndStrips() {
        texts(24, WITHOUT_THESE, "seen", NONE, (x, n) -> x.seen(n, 0, 0));
        texts(25, WITHOUT_THESE, "right", NONE, (x, n) -> x.right(n, 0, 0));
        texts(26, WITHOUT_THESE, "often", NONE, (x, n) -> x.often(n, 0, 0));
        texts(30, "-2 without these", "strip", NOT_THERE, (x, n) -> x.strip(n, 0));
    }

    private static void withoutSheets() {
        sentence(12, "Of a SHEET what 0: wide, 1: high, 2: ROUND, 3: FACETS, 4: RIDGES, 5: what all RIDGES are long together, "
            + "6: RIDGES that are SOFT. NONE without these");
        limits("of what", 0, 6, what -> told(1, 1).of(0, what));
        sentence(10, "Of a FACET what 0: x, 1: y, 2: wide, 3: high, 4: edge; NONE without these");
        limits("facet what", 0, 4, what -> told(1, 1).facet(0, 0, what));
        limits("facet", 0, 3, facet -> told(1, 1).facet(0, facet, 0));
        sentence(11, "Of a RIDGE what 0: way, 1: place, 2: from, 3: to, 4: ROUND, 5: kind, 6: USED; NONE without these");
        limits("ridge what", 0, 6, what -> told(1, 1).ridge(0, 0, what));
        limits("ridge", 0, 2, ridge -> told(1, 1).ridge(0, ridge, 0));
        sentence(37, "WHICH; -2: there are no DOINGS; NONE without it");
        due("no SHEETS", told(6, 0).which(0), NONE);
        sentence(40, "HALVES; NONE without these");
        due("needs nothing told", told(0, 0).halves(2, 2), 2);
    }

    private static void behindBack() {
        sentence(43, "All is as in an IMAGE: how many SHEETS");
        CrumpledSheet x = told(6, 1);
        x.image(0);
        for (int i = 1; i < 6; i++) x.sheet(9, 9, 0, 0);
        due("six", x.count(0), 6);
        due("back", x.back(0), 1);
        for (int sheet = 1; sheet < 6; sheet++) {
            due("press", x.press(sheet, 1), NONE);
            due("turn", x.turn(sheet), false);
            due("likest", x.likest(sheet), NONE);
            due("apart", x.apart(0, sheet), NONE);
            due("flat", x.flat(sheet), NONE);
        }
        due("no other one", x.likest(0), NOT_THERE);
        due("FACETS of all", x.count(5), 4);
    }
}
