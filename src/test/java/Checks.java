import java.io.IOException;
import java.math.BigInteger;
import java.nio.file.Files;
import java.nio.file.Path;
import java.util.ArrayList;
import java.util.List;
import java.util.Set;
import java.util.TreeSet;
import java.util.function.IntUnaryOperator;
import java.util.function.Supplier;
import java.util.function.ToIntFunction;

/** What the tests that were worked out by hand share: telling texts, comparing answers, counting what is wrong. */
abstract class Checks {
    static final int NONE = CrumpledSheet.NONE;
    static final int NOT_THERE = -2;
    static final int MIN = Integer.MIN_VALUE;
    static final int MAX = Integer.MAX_VALUE;
    static final int LAW = 0;
    static final int DOING = 1;
    static final int RULE = 2;
    static final int STRIP = 3;
    static final String[] A_TEXT_OF_EACH_SORT = {"breaks 1", "turn", "see 1=1", "5"};
    /** Far beyond every limit, and such as would be taken if only their lowest bits were looked at. */
    private static final int[] FAR = {MIN, MIN + 1, -65536, -256, 256, 65536, 65537, 65538, MAX - 1, MAX};
    /** So many calls an object may still answer when it has been made. */
    private static final int MOST_QUESTIONS = 200;

    private static final Path DOCUMENT = Path.of("../shared/DOC.md");
    private static final String WORDS = wordsOfDocument();

    private static final Set<Integer> named = new TreeSet<>();
    private static String sentence = "";
    private static int wrong = 0;
    private static int right = 0;

    private static String wordsOfDocument() {
        try {
            return Files.exists(DOCUMENT) ? oneLine(Files.readString(DOCUMENT)) : null;
        } catch (IOException e) {
            throw new IllegalStateException(e);
        }
    }

    private static String oneLine(String text) {
        return text.replaceAll("\\s+", " ");
    }

    /** What follows tests these words, which stand in the document, for this promise. */
    static void sentence(int promise, String words) {
        sentence = "promise " + promise + ", '" + words + "': ";
        named.add(promise);
        if (WORDS != null && !WORDS.contains(oneLine(words))) {
            tell("these words do not stand in " + DOCUMENT);
        }
    }

    private static void tell(String what) {
        wrong++;
        System.out.println(sentence + what);
    }

    static void due(String call, int got, int want) {
        if (got == want) {
            right++;
        } else {
            tell(call + " answered " + got + ", due is " + want);
        }
    }

    static void due(String call, boolean got, boolean want) {
        due(call, got ? 1 : 0, want ? 1 : 0);
    }

    static void dueNot(String call, int got, int refusal) {
        if (got != refusal) {
            right++;
        } else {
            tell(call + " is refused (" + got + "), and should be taken");
        }
    }

    static void dueRow(String call, IntUnaryOperator got, int... want) {
        for (int i = 0; i < want.length; i++) due(call + " " + i, got.applyAsInt(i), want[i]);
    }

    static void finish(int leastPromise, int mostPromise) {
        for (int promise = leastPromise; promise <= mostPromise; promise++) {
            if (!named.contains(promise)) tell("promise " + promise + " was not named");
        }
        finish();
    }

    static void finish() {
        System.out.println(right + " answers are as due, " + wrong + " are not");
        if (wrong != 0) System.exit(1);
    }

    // ==== texts

    static int[] numbers(String text, int from) {
        int[] numbers = new int[5];
        for (int b = 0; b < 20 && from + b < text.length(); b++) numbers[b / 4] |= text.charAt(from + b) << 24 - b % 4 * 8;
        return numbers;
    }

    static int feed(CrumpledSheet x, String text) {
        int[] n = numbers(text, 0);
        return x.feed(n[0], n[1], n[2], n[3], n[4]);
    }

    static void tape(CrumpledSheet x, String text) {
        x.end(0);
        for (int i = 0; i < text.length(); i += 20) feed(x, text.substring(i));
        x.end(text.length());
    }

    static int text(CrumpledSheet x, int sort, String text) {
        tape(x, text);
        return x.text(sort);
    }

    static void fault(int sort, String text, int place, int kind) {
        due("fault of '" + text + "'", text(new CrumpledSheet(), sort, text), -2 - (1 + 8 * place + kind));
    }

    static void fine(int sort, String text) {
        due("text '" + text + "'", text(new CrumpledSheet(), sort, text), 0);
    }

    /** A text whose first FAULT stands at the sign ^, which is not a part of it. */
    static void faulty(int sort, String marked, int kind) {
        int place = marked.indexOf('^');
        fault(sort, marked.substring(0, place) + marked.substring(place + 1), place, kind);
    }

    // ==== objects to ask

    static CrumpledSheet with(String law, int wide, int high, int seed) {
        CrumpledSheet x = new CrumpledSheet();
        due("law '" + law + "'", text(x, LAW, law), 0);
        due("sheet", x.sheet(wide, high, 0, seed), 0);
        return x;
    }

    static void press(CrumpledSheet x, int sheet, int tight, int times) {
        for (int i = 0; i < times; i++) x.press(sheet, tight);
    }

    static void facet(CrumpledSheet x, int facet, int... want) {
        dueRow("facet " + facet + " what", i -> x.facet(0, facet, i), want);
    }

    static void ridge(CrumpledSheet x, int ridge, int... want) {
        dueRow("ridge " + ridge + " what", i -> x.ridge(0, ridge, i), want);
    }

    // ==== draws

    static long next(long x) {
        return (x * 1103515245L + 12345L) % 2147483648L;
    }

    /** The seed from which the first x is this one. */
    static int seedAhead(long x) {
        BigInteger all = BigInteger.valueOf(2147483648L);
        BigInteger factor = BigInteger.valueOf(1103515245L).modInverse(all);
        int seed = BigInteger.valueOf(x - 12345).multiply(factor).mod(all).intValueExact();
        if (next(seed) != x) throw new IllegalStateException("no such seed");
        return seed;
    }

    /** A seed whose first DRAW is this one. */
    static int seedOfDraw(int draw) {
        return seedAhead(draw * 65536L + 4321);
    }

    /** A seed whose second DRAW is this one. */
    static int seedOfSecondDraw(int draw) {
        return seedAhead(seedOfDraw(draw));
    }

    // ==== limits

    /** Least and most are taken, all beyond them is refused; each call is to bring an object of its own. */
    static void limits(String what, int least, int most, int refusal, IntUnaryOperator call) {
        dueNot(what + " " + least, call.applyAsInt(least), refusal);
        dueNot(what + " " + most, call.applyAsInt(most), refusal);
        if (least > MIN) due(what + " " + (least - 1), call.applyAsInt(least - 1), refusal);
        if (most < MAX) due(what + " " + (most + 1), call.applyAsInt(most + 1), refusal);
        for (int far : FAR) {
            if (far < least || far > most) due(what + " " + far, call.applyAsInt(far), refusal);
        }
    }

    static void limits(String what, int least, int most, IntUnaryOperator call) {
        limits(what, least, most, NONE, call);
    }

    // ==== refused calls

    /** A call that is refused: the answer, and all that can be asked behind it is as if it had not come. */
    static void refused(String what, int refusal, Supplier<CrumpledSheet> maker, ToIntFunction<CrumpledSheet> call) {
        due(what, call.applyAsInt(maker.get()), refusal);
        changesNothing(what, maker, call);
    }

    static void changesNothing(String what, Supplier<CrumpledSheet> maker, ToIntFunction<CrumpledSheet> call) {
        Supplier<CrumpledSheet> called = () -> {
            CrumpledSheet x = maker.get();
            call.applyAsInt(x);
            return x;
        };
        List<ToIntFunction<CrumpledSheet>> questions = questions(maker.get());
        CrumpledSheet one = null;
        CrumpledSheet other = null;
        for (int i = 0; i < questions.size(); i++) {
            if (i % MOST_QUESTIONS == 0) {
                one = maker.get();
                other = called.get();
            }
            int want = questions.get(i).applyAsInt(one);
            due(what + " changes nothing (question " + i + ")", questions.get(i).applyAsInt(other), want);
        }
    }

    /** All that can be asked of such an object, one behind the other: the last ones show what is hidden. */
    private static List<ToIntFunction<CrumpledSheet>> questions(CrumpledSheet like) {
        List<ToIntFunction<CrumpledSheet>> all = new ArrayList<>();
        for (int i = 0; i < 8; i++) addQuestion(all, i, (x, n) -> x.count(n));
        int sheets = like.count(0);
        for (int s = 0; s < sheets; s++) addQuestionsOfSheet(all, like, s);
        for (int s = 0; s < 6; s++) addQuestionsOfTexts(all, s);
        for (int s = 0; s < sheets; s++) {
            // as many FACETS as break show the draws, too
            addQuestion(all, s, (x, n) -> x.press(n, 50));
            addQuestion(all, s, (x, n) -> x.ridge(n, x.of(n, 4) - 1, 1));
        }
        for (int sort = 0; sort < 4; sort++) addQuestion(all, sort, (x, n) -> x.text(n));
        for (int k = 0; k < 4; k++) {
            addQuestion(all, k, (x, n) -> x.back(n));
            for (int s = 0; s < 6; s++) {
                addQuestion(all, s, (x, n) -> x.of(n, 2));
                addQuestion(all, s, (x, n) -> x.of(n, 5));
            }
        }
        addQuestion(all, 0, (x, n) -> x.sheet(2, 2, n, 0));
        return all;
    }

    private interface Numbered {
        int ask(CrumpledSheet x, int n);
    }

    private static void addQuestion(List<ToIntFunction<CrumpledSheet>> all, int n, Numbered question) {
        all.add(x -> question.ask(x, n));
    }

    private static void addQuestionsOfSheet(List<ToIntFunction<CrumpledSheet>> all, CrumpledSheet like, int s) {
        for (int i = 0; i < 7; i++) addQuestion(all, i, (x, n) -> x.of(s, n));
        int facets = like.of(s, 3);
        int ridges = like.of(s, 4);
        int rounds = like.of(s, 2);
        for (int i = 0; i < facets * 4; i++) addQuestion(all, i, (x, n) -> x.facet(s, n / 4, n % 4));
        for (int i = 0; i < ridges * 7; i++) addQuestion(all, i, (x, n) -> x.ridge(s, n / 7, n % 7));
        for (int i = 1; i <= rounds; i++) addQuestion(all, i, (x, n) -> x.foretold(s, n));
        addQuestion(all, 50, (x, n) -> x.expected(s, n, 0));
    }

    private static void addQuestionsOfTexts(List<ToIntFunction<CrumpledSheet>> all, int text) {
        for (int i = 0; i < 6; i++) addQuestion(all, i, (x, n) -> x.strip(text, n));
        addQuestion(all, text, (x, n) -> x.after(n, 0, 2));
        addQuestion(all, text, (x, n) -> x.alike(0, n));
        addQuestion(all, text, (x, n) -> x.seen(n, 0, 1));
    }
}
