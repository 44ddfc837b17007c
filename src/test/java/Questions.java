import java.util.ArrayList;
import java.util.List;
import java.util.function.ToIntFunction;

/** All that can be asked of an object that was told so far, one behind the other; the last ones show what is hidden. */
final class Questions {
    private final List<String> names = new ArrayList<>();
    private final List<ToIntFunction<CrumpledSheet>> all = new ArrayList<>();

    static Questions of(CrumpledSheet like) {
        Questions questions = new Questions();
        questions.addCounts();
        int sheets = like.count(0);
        for (int s = 0; s < sheets; s++) {
            questions.addParts(s, like.of(s, 3), like.of(s, 4));
            questions.addLengths(s, like.of(s, 2));
            questions.addSizes(s, sheets);
            questions.addReaders(s, sheets, like.count(3));
            questions.addFields(s, like.of(s, 3));
            questions.addDoings(s, like.count(2));
        }
        questions.addStrips();
        questions.addHidden(sheets);
        return questions;
    }

    int size() {
        return all.size();
    }

    String name(int question) {
        return names.get(question);
    }

    int ask(int question, CrumpledSheet x) {
        return all.get(question).applyAsInt(x);
    }

    private void add(String name, ToIntFunction<CrumpledSheet> question) {
        names.add(name);
        all.add(question);
    }

    private interface Numbered {
        int ask(CrumpledSheet x, int n);
    }

    private void addAll(String name, int from, int to, Numbered question) {
        for (int i = from; i <= to; i++) {
            int n = i;
            add(name + " " + n, x -> question.ask(x, n));
        }
    }

    private void addCounts() {
        addAll("count", 0, 7, (x, n) -> x.count(n));
    }

    private void addParts(int s, int facets, int ridges) {
        addAll("of " + s, 0, 6, (x, n) -> x.of(s, n));
        for (int f = 0; f < facets; f++) {
            int facet = f;
            addAll("facet " + s + " " + f, 0, 4, (x, n) -> x.facet(s, facet, n));
        }
        for (int r = 0; r < ridges; r++) {
            int ridge = r;
            addAll("ridge " + s + " " + r, 0, 6, (x, n) -> x.ridge(s, ridge, n));
        }
        add("facet beyond", x -> x.facet(s, facets, 0));
        add("ridge beyond", x -> x.ridge(s, ridges, 0));
    }

    private void addLengths(int s, int rounds) {
        addAll("length " + s, 0, rounds, (x, n) -> x.length(s, n));
        addAll("adds " + s, 0, rounds, (x, n) -> x.adds(s, n));
        addAll("foretold " + s, 1, rounds + 1, (x, n) -> x.foretold(s, n));
        addAll("miss " + s, 1, rounds + 1, (x, n) -> x.miss(s, 1, n));
        addAll("expected " + s, 0, 1, (x, n) -> x.expected(s, 50, n));
        addAll("curve " + s, 0, 1, (x, n) -> x.curve(s, n));
    }

    private void addSizes(int s, int sheets) {
        addAll("sizes " + s, 0, 2, (x, n) -> x.sizes(s, n));
        addAll("classes " + s, 0, 15, (x, n) -> x.classes(s, n));
        addAll("apart " + s, 0, sheets, (x, n) -> x.apart(s, n));
        addAll("guess " + s, 0, sheets, (x, n) -> x.guess(s, n));
        add("likest " + s, x -> x.likest(s));
    }

    private void addReaders(int s, int sheets, int rules) {
        for (int r = 0; r <= rules; r++) {
            int rule = r;
            addAll("seen " + r + " " + s, 0, 2, (x, n) -> x.seen(rule, s, n));
            addAll("right " + r + " " + s, 0, 1, (x, n) -> x.right(rule, s, n));
            addAll("often " + r + " " + s, 0, sheets, (x, n) -> x.often(rule, s, n));
        }
        addAll("corners " + s, 0, 4, (x, n) -> x.corners(s, n));
        add("flat " + s, x -> x.flat(s));
        add("strength " + s, x -> x.strength(s, 7));
    }

    private void addFields(int s, int facets) {
        addAll("beside " + s, 0, facets, (x, n) -> x.beside(s, n));
        addAll("steps from " + s, 0, facets, (x, n) -> x.steps(s, n, 0));
        addAll("steps to " + s, 0, facets, (x, n) -> x.steps(s, facets - 1, n));
        addAll("heart " + s, 0, 1, (x, n) -> x.heart(s, n));
        add("most " + s, x -> x.most(s));
    }

    private void addDoings(int s, int doings) {
        for (int d = 0; d <= doings; d++) {
            int doing = d;
            addAll("after " + d + " " + s, 0, 2, (x, n) -> x.after(doing, s, n));
            add("alike " + d + " " + s, x -> x.alike(s, doing));
            add("runs " + d + " " + s, x -> x.runs(doing, s, 1, 10, 20));
        }
        add("which " + s, x -> x.which(s));
        addAll("until " + s, 1, 12, (x, n) -> x.until(s, 50, n * n));
    }

    private void addStrips() {
        for (int s = 0; s < 6; s++) {
            int strip = s;
            addAll("strip " + s, 0, 5, (x, n) -> x.strip(strip, n));
        }
    }

    /** As many FACETS as break, and where, show the draws; what a text is shows the TAPE. */
    private void addHidden(int sheets) {
        addAll("press", 0, sheets - 1, (x, n) -> x.press(n, 50));
        addAll("behind it the last ridge of", 0, sheets - 1, (x, n) -> x.ridge(n, x.of(n, 4) - 1, 1));
        addAll("fold", 0, sheets - 1, (x, n) -> x.fold(n, 0, 5));
        addAll("text", 0, 3, (x, n) -> x.text(n));
        for (int k = 0; k < 4; k++) {
            int image = k;
            add("back " + k, x -> x.back(image));
            addAll("behind it the ROUND of", 0, 5, (x, n) -> x.of(n, 2));
            addAll("behind it the length of", 0, 5, (x, n) -> x.of(n, 5));
        }
        add("sheet", x -> x.sheet(2, 2, 0, 0));
    }
}
