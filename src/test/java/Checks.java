import java.io.IOException;
import java.math.BigInteger;
import java.nio.file.Files;
import java.nio.file.Path;
import java.util.Set;
import java.util.TreeSet;
import java.util.function.IntUnaryOperator;
import java.util.function.Supplier;
import java.util.function.ToIntFunction;

/** What the tests that were worked out by hand share: telling texts, comparing answers, counting what is wrong. */
abstract class Checks {
    static final int NONE = CrumpledSheet.NONE;
    static final int NOT_THERE = -2;
    static final int MIN = Integer.MIN_VALUE;
    static final int MAX = Integer.MAX_VALUE;
    static final int LAW = 0;
    static final int DOING = 1;
    static final int RULE = 2;
    static final int STRIP = 3;
    static final String HALVING = "breaks 1000;at 500";
    static final String[] A_TEXT_OF_EACH_SORT = {"breaks 1", "turn", "see 1=1", "5"};
    /** Far beyond every limit, and such as would be taken if only their lowest bits were looked at. */
    private static final int[] FAR = {MIN, MIN + 1, -65536, -256, 256, 65536, 65537, 65538, MAX - 1, MAX};
    /** So many calls an object may still answer when it has been made. */
    private static final int MOST_QUESTIONS = 200;

    private static final Path DOCUMENT = Path.of("../shared/DOC.md");
    private static final String WORDS = wordsOfDocument();

    private static final Set<Integer> named = new TreeSet<>();
    private static String sentence = "";
    private static int wrong = 0;
    private static int right = 0;

    private static String wordsOfDocument() {
        try {
            return Files.exists(DOCUMENT) ? oneLine(Files.readString(DOCUMENT)) : null;
        } catch (IOException e) {
            throw new IllegalStateException(e);
        }
    }

    private static String oneLine(String text) {
        return text.replaceAll("\\s+", " ");
    }

    /** What follows tests these words, which stand in the document, for this promise. */
    static void sentence(int promise, String words) {
        sentence = "promise " + promise + ", '" + words + "': ";
        named.add(promise);
        if (WORDS != null && !WORDS.contains(oneLine(words))) {
            tell("these words do not stand in " + DOCUMENT);
        }
    }

    private static void tell(String what) {
        wrong++;
        System.out.println(sentence + what);
    }

    static void due(String call, int got, int want) {
        if (got == want) {
            right++;
        } else {
            tell(call + " answered " + got + ", due is " + want);
        }
    }

    static void due(String call, boolean got, boolean want) {
        due(call, got ? 1 : 0, want ? 1 : 0);
    }

    static void dueNot(String call, int got, int refusal) {
        if (got != refusal) {
            right++;
        } else {
            tell(call + " is refused (" + got + "), and should be taken");
        }
    }

    static void dueRow(String call, IntUnaryOperator got, int... want) {
        for (int i = 0; i < want.length; i++) due(call + " " + i, got.applyAsInt(i), want[i]);
    }

    static void finish(int leastPromise, int mostPromise) {
        for (int promise = leastPromise; promise <= mostPromise; promise++) {
            if (!named.contains(promise)) tell("promise " + promise + " was not named");
        }
        finish();
    }

    static void finish() {
        System.out.println(right + " answers are as due, " + wrong + " are not");
        if (wrong != 0) System.exit(1);
    }

    // ==== texts

    static int[] numbers(String text, int from) {
        int[] numbers = new int[5];
        for (int b = 0; b < 20 && from + b < text.length(); b++) numbers[b / 4] |= text.charAt(from + b) << 24 - b % 4 * 8;
        return numbers;
    }

    static int feed(CrumpledSheet x, String text) {
        int[] n = numbers(text, 0);
        return x.feed(n[0], n[1], n[2], n[3], n[4]);
    }

    static void tape(CrumpledSheet x, String text) {
        x.end(0);
        for (int i = 0; i < text.length(); i += 20) feed(x, text.substring(i));
        x.end(text.length());
    }

    static int text(CrumpledSheet x, int sort, String text) {
        tape(x, text);
        return x.text(sort);
    }

    static void fault(int sort, String text, int place, int kind) {
        due("fault of '" + text + "'", text(new CrumpledSheet(), sort, text), -2 - (1 + 8 * place + kind));
    }

    static void fine(int sort, String text) {
        due("text '" + text + "'", text(new CrumpledSheet(), sort, text), 0);
    }

    /** A text whose first FAULT stands at the sign ^, which is not a part of it. */
    static void faulty(int sort, String marked, int kind) {
        int place = marked.indexOf('^');
        fault(sort, marked.substring(0, place) + marked.substring(place + 1), place, kind);
    }

    // ==== objects to ask

    static CrumpledSheet with(String law, int wide, int high, int seed) {
        CrumpledSheet x = new CrumpledSheet();
        due("law '" + law + "'", text(x, LAW, law), 0);
        due("sheet", x.sheet(wide, high, 0, seed), 0);
        return x;
    }

    /** A SHEET that never breaks. */
    static CrumpledSheet still(int wide, int high) {
        return with("breaks 0", wide, high, 0);
    }

    /** A SHEET 8 by 4 that breaks into halves: 4, 8, 8, 16, 16 long are its first five ROUNDS, then it is dust. */
    static CrumpledSheet halved(int rounds) {
        CrumpledSheet x = with(HALVING, 8, 4, 0);
        press(x, 0, 1, rounds);
        return x;
    }

    static void press(CrumpledSheet x, int sheet, int tight, int times) {
        for (int i = 0; i < times; i++) x.press(sheet, tight);
    }

    static void facet(CrumpledSheet x, int facet, int... want) {
        dueRow("facet " + facet + " what", i -> x.facet(0, facet, i), want);
    }

    static void ridge(CrumpledSheet x, int ridge, int... want) {
        dueRow("ridge " + ridge + " what", i -> x.ridge(0, ridge, i), want);
    }

    // ==== draws

    static long next(long x) {
        return (x * 1103515245L + 12345L) % 2147483648L;
    }

    /** The seed from which the first x is this one. */
    static int seedAhead(long x) {
        BigInteger all = BigInteger.valueOf(2147483648L);
        BigInteger factor = BigInteger.valueOf(1103515245L).modInverse(all);
        int seed = BigInteger.valueOf(x - 12345).multiply(factor).mod(all).intValueExact();
        if (next(seed) != x) throw new IllegalStateException("no such seed");
        return seed;
    }

    /** A seed whose first DRAW is this one. */
    static int seedOfDraw(int draw) {
        return seedAhead(draw * 65536L + 4321);
    }

    /** A seed whose second DRAW is this one. */
    static int seedOfSecondDraw(int draw) {
        return seedAhead(seedOfDraw(draw));
    }

    // ==== limits

    /** Least and most are taken, all beyond them is refused; each call is to bring an object of its own. */
    static void limits(String what, int least, int most, int refusal, IntUnaryOperator call) {
        dueNot(what + " " + least, call.applyAsInt(least), refusal);
        dueNot(what + " " + most, call.applyAsInt(most), refusal);
        if (least > MIN) due(what + " " + (least - 1), call.applyAsInt(least - 1), refusal);
        if (most < MAX) due(what + " " + (most + 1), call.applyAsInt(most + 1), refusal);
        for (int far : FAR) {
            if (far < least || far > most) due(what + " " + far, call.applyAsInt(far), refusal);
        }
    }

    static void limits(String what, int least, int most, IntUnaryOperator call) {
        limits(what, least, most, NONE, call);
    }

    // ==== refused calls

    /** A call that is refused: the answer, and all that can be asked behind it is as if it had not come. */
    static void refused(String what, int refusal, Supplier<CrumpledSheet> maker, ToIntFunction<CrumpledSheet> call) {
        due(what, call.applyAsInt(maker.get()), refusal);
        changesNothing(what, maker, call);
    }

    static void changesNothing(String what, Supplier<CrumpledSheet> maker, ToIntFunction<CrumpledSheet> call) {
        sameAnswers(what + " changes nothing", maker, () -> {
            CrumpledSheet x = maker.get();
            call.applyAsInt(x);
            return x;
        });
    }

    /** All that can be asked of the one is answered alike by the other. */
    static void sameAnswers(String what, Supplier<CrumpledSheet> one, Supplier<CrumpledSheet> other) {
        Questions questions = Questions.of(one.get());
        CrumpledSheet x = null;
        CrumpledSheet y = null;
        for (int i = 0; i < questions.size(); i++) {
            if (i % MOST_QUESTIONS == 0) {
                x = one.get();
                y = other.get();
            }
            due(what + ": " + questions.name(i), questions.ask(i, y), questions.ask(i, x));
        }
    }
}
