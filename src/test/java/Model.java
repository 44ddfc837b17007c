import java.util.ArrayDeque;
import java.util.ArrayList;
import java.util.Arrays;
import java.util.HashMap;
import java.util.HashSet;
import java.util.List;
import java.util.Map;
import java.util.Set;
import java.util.function.Predicate;
import java.util.function.ToLongFunction;
import java.util.stream.IntStream;

/**
 * The document written down once more, in another manner: trees instead of rows of steps, lists instead of rows,
 * cells of a grid instead of sides. ModelTest lets it answer the same calls as the class.
 */
final class Model {
    static final int NONE = -1;

    interface Env { long word(String name); }

    record Cut(int x, int y, int wide, int high) {
        int longSide() { return Math.max(wide, high); }
        int shortSide() { return Math.min(wide, high); }
        boolean level() { return wide < high; }
        int area() { return wide * high; }
        Cut turned() { return new Cut(y, x, high, wide); }
    }

    record Crease(int way, int place, int from, int to, int round, int kind, int used) {
        int length() { return to - from; }
        Crease usedAgain() { return new Crease(way, place, from, to, round, kind, used + 1); }
        Crease turned() { return new Crease(1 - way, place, from, to, round, kind, used); }
        List<Integer> spot() { return List.of(way, place, from, to); }
        boolean covers(int x, int y) {
            return way == 0 ? x == place && from <= y && y <= to : y == place && from <= x && x <= to;
        }
        boolean endsAt(int x, int y) { return covers(x, y) && (way == 0 ? y == from || y == to : x == from || x == to); }
    }

    static final class Paper {
        int wide, high, toldWide, toldHigh, toldSeed, round;
        LawText law;
        long x;
        List<Cut> cuts = new ArrayList<>();
        List<Crease> creases = new ArrayList<>();
        Map<Integer, Long> foretold = new HashMap<>();

        Paper(int wide, int high, LawText law, int seed) {
            this.wide = toldWide = wide;
            this.high = toldHigh = high;
            this.law = law;
            toldSeed = seed;
            x = seed;
            cuts.add(new Cut(0, 0, wide, high));
        }

        Paper copy() {
            Paper p = new Paper(toldWide, toldHigh, law, toldSeed);
            p.wide = wide;
            p.high = high;
            p.round = round;
            p.x = x;
            p.cuts = new ArrayList<>(cuts);
            p.creases = new ArrayList<>(creases);
            p.foretold = new HashMap<>(foretold);
            return p;
        }

        int draw() {
            x = (x * 1103515245L + 12345L) & 0x7fffffffL;
            return (int) (x >> 16);
        }

        long total() { return creases.stream().mapToLong(Crease::length).sum(); }

        int edge(Cut c) {
            int n = 0;
            if (c.x == 0) n++;
            if (c.y == 0) n++;
            if (c.x + c.wide == wide) n++;
            if (c.y + c.high == high) n++;
            return n;
        }

        Env env(Cut c, int begins, int tight, long total) {
            return name -> switch (name) {
                case "long" -> c.longSide();
                case "short" -> c.shortSide();
                case "area" -> c.area();
                case "round" -> begins;
                case "tight" -> tight;
                case "edge" -> edge(c);
                case "way" -> c.level() ? 1 : 0;
                case "total" -> total;
                default -> throw new IllegalStateException(name);
            };
        }

        long expected(int tight, boolean weighed) {
            long sum = 0;
            for (Cut c : cuts) {
                if (c.longSide() > 1) {
                    long b = clamp(law.breaks(env(c, round + 1, tight, total())), 0, 1000);
                    sum += weighed ? b * c.shortSide() : b;
                }
            }
            return sum;
        }

        int press(int tight) {
            if (round == 60) return NONE;
            foretold.put(round + 1, expected(tight, true));
            round++;
            long total = total();
            creases.replaceAll(Crease::usedAgain);
            List<Cut> old = new ArrayList<>(cuts);
            int broke = 0;
            for (int i = 0; i < old.size(); i++) {
                Cut c = old.get(i);
                int d = draw() % 1000;
                Env env = env(c, round, tight, total);
                if (d >= clamp(law.breaks(env), 0, 1000) || c.longSide() < 2) continue;
                if (cuts.size() == 200 || creases.size() == 400) continue;
                Long at = law.at(env);
                long p = at == null ? draw() % (c.longSide() - 1) + 1
                    : clamp(Math.floorDiv(clamp(at, -1000000, 1000000) * c.longSide(), 1000L), 1, c.longSide() - 1);
                split(i, c.level(), (int) p);
                creases.add(c.level()
                    ? new Crease(1, c.y + (int) p, c.x, c.x + c.wide, round, 0, 1)
                    : new Crease(0, c.x + (int) p, c.y, c.y + c.high, round, 0, 1));
                broke++;
            }
            return broke;
        }

        void split(int i, boolean level, int p) {
            Cut c = cuts.get(i);
            if (level) {
                cuts.set(i, new Cut(c.x, c.y, c.wide, p));
                cuts.add(new Cut(c.x, c.y + p, c.wide, c.high - p));
            } else {
                cuts.set(i, new Cut(c.x, c.y, p, c.high));
                cuts.add(new Cut(c.x + p, c.y, c.wide - p, c.high));
            }
        }

        int fold(int way, int place) {
            if (place < 1 || place > (way == 0 ? wide : high) - 1) return NONE;
            List<Integer> through = new ArrayList<>();
            for (int i = 0; i < cuts.size(); i++) {
                Cut c = cuts.get(i);
                int a = way == 0 ? c.x : c.y;
                int b = a + (way == 0 ? c.wide : c.high);
                if (a < place && place < b) through.add(i);
            }
            if (through.isEmpty() || cuts.size() + through.size() > 200 || creases.size() + 1 > 400) return NONE;
            for (int i : through) {
                Cut c = cuts.get(i);
                split(i, way == 1, place - (way == 0 ? c.x : c.y));
            }
            creases.add(new Crease(way, place, 0, way == 0 ? high : wide, round, 1, 1));
            return through.size();
        }

        void turn() {
            int w = wide;
            wide = high;
            high = w;
            cuts.replaceAll(Cut::turned);
            creases.replaceAll(Crease::turned);
        }

        int upTo(int r) { return creases.stream().filter(c -> c.round <= r).mapToInt(Crease::length).sum(); }
        int in(int r) { return creases.stream().filter(c -> c.round == r).mapToInt(Crease::length).sum(); }

        int classOf(int k) {
            return (int) cuts.stream().filter(c -> c.area() >= 1 << k && c.area() <= (1 << (k + 1)) - 1).count();
        }

        int apart(Paper o) { return IntStream.range(0, 16).map(k -> Math.abs(classOf(k) - o.classOf(k))).sum(); }

        boolean soft(Crease c) { return c.used >= law.soft; }

        boolean atEdge(Crease c, int e) { return e == 0 || e == (c.way == 0 ? high : wide); }

        Env env(Crease c) {
            return name -> switch (name) {
                case "length" -> c.length();
                case "round" -> c.round;
                case "used" -> c.used;
                case "kind" -> c.kind;
                case "way" -> c.way;
                case "place" -> c.place;
                case "ends" -> (atEdge(c, c.from) ? 1 : 0) + (atEdge(c, c.to) ? 1 : 0);
                case "now" -> round;
                default -> throw new IllegalStateException(name);
            };
        }

        /** Which of four arms (up, down, left, right) a point has; null if it is no CORNER. */
        boolean[] arms(int x, int y) {
            boolean ends = false, upright = false, level = false;
            boolean[] arms = new boolean[4];
            for (Crease c : creases) {
                if (!c.covers(x, y)) continue;
                ends |= c.endsAt(x, y);
                upright |= c.way == 0;
                level |= c.way == 1;
                arms[0] |= c.covers(x, y - 1);
                arms[1] |= c.covers(x, y + 1);
                arms[2] |= c.covers(x - 1, y);
                arms[3] |= c.covers(x + 1, y);
            }
            return ends || upright && level ? arms : null;
        }

        List<boolean[]> corners() {
            List<boolean[]> all = new ArrayList<>();
            for (int x = 1; x < wide; x++) {
                for (int y = 1; y < high; y++) {
                    boolean[] arms = arms(x, y);
                    if (arms != null) all.add(arms);
                }
            }
            return all;
        }

        /** Who lies beside whom, found by the cells of the sheet. */
        List<Set<Integer>> beside() {
            int[][] owner = new int[wide][high];
            List<Set<Integer>> sets = new ArrayList<>();
            for (int i = 0; i < cuts.size(); i++) {
                Cut c = cuts.get(i);
                sets.add(new HashSet<>());
                for (int x = c.x; x < c.x + c.wide; x++) Arrays.fill(owner[x], c.y, c.y + c.high, i);
            }
            for (int x = 0; x < wide; x++) {
                for (int y = 0; y < high; y++) {
                    if (x + 1 < wide) join(sets, owner[x][y], owner[x + 1][y]);
                    if (y + 1 < high) join(sets, owner[x][y], owner[x][y + 1]);
                }
            }
            return sets;
        }

        private static void join(List<Set<Integer>> sets, int a, int b) {
            if (a != b) {
                sets.get(a).add(b);
                sets.get(b).add(a);
            }
        }

        int[] walk(List<Set<Integer>> beside, int from) {
            int[] far = new int[cuts.size()];
            Arrays.fill(far, -1);
            far[from] = 0;
            ArrayDeque<Integer> queue = new ArrayDeque<>(List.of(from));
            while (!queue.isEmpty()) {
                int here = queue.poll();
                for (int next : beside.get(here)) {
                    if (far[next] < 0) {
                        far[next] = far[here] + 1;
                        queue.add(next);
                    }
                }
            }
            return far;
        }
    }

    static long clamp(long v, long lo, long hi) { return v < lo ? lo : v > hi ? hi : v; }

    // ==== texts

    record LawClause(boolean breaks, ToLongFunction<Env> sum, Predicate<Env> test) { }

    static final class LawText {
        List<LawClause> clauses = new ArrayList<>();
        int soft = 99;

        private Long first(boolean breaks, Env env) {
            for (LawClause c : clauses) {
                if (c.breaks == breaks && (c.test == null || c.test.test(env))) return c.sum.applyAsLong(env);
            }
            return null;
        }

        long breaks(Env env) {
            Long told = first(true, env);
            return told == null ? 0 : told;
        }

        Long at(Env env) { return first(false, env); }
    }

    record Act(String sort, int number, int times, int way) { }

    record Look(boolean see, Predicate<Env> test) { }

    record StripText(List<Integer> parts, List<Character> folds) { }

    record Reduced(int steps, int left, int first) { }

    static Reduced reduce(StripText told) {
        List<Integer> p = new ArrayList<>(told.parts);
        List<Character> f = new ArrayList<>(told.folds);
        int steps = 0;
        while (true) {
            int last = p.size() - 1;
            if (f.isEmpty()) break;
            if (p.get(0) <= p.get(1)) {
                p.remove(0);
                f.remove(0);
            } else if (p.get(last) <= p.get(last - 1)) {
                p.remove(last);
                f.remove(last - 1);
            } else {
                int at = -1;
                for (int i = 0; i < f.size() - 1 && at < 0; i++) {
                    if (!f.get(i).equals(f.get(i + 1)) && p.get(i + 1) <= p.get(i) && p.get(i + 1) <= p.get(i + 2)) at = i;
                }
                if (at < 0) break;
                int one = p.get(at) + p.get(at + 2) - p.get(at + 1);
                p.subList(at, at + 3).clear();
                p.add(at, one);
                f.subList(at, at + 2).clear();
            }
            steps++;
        }
        return new Reduced(steps, f.size(), p.get(0));
    }

    @SuppressWarnings("serial")
    static final class Fault extends RuntimeException {
        final int number;
        Fault(int place, int kind) { number = 1 + 8 * place + kind; }
    }

    record Token(int place, char sort, String text) { }

    /** The text in pieces: w WORDS, n NUMBERS, s signs, . the end. */
    static List<Token> pieces(String text) {
        List<Token> all = new ArrayList<>();
        int i = 0;
        while (i < text.length()) {
            char c = text.charAt(i);
            int j = i + 1;
            if (c == ' ') {
                i = j;
                continue;
            }
            char sort = 's';
            if (c >= 'a' && c <= 'z') {
                sort = 'w';
                while (j < text.length() && text.charAt(j) >= 'a' && text.charAt(j) <= 'z') j++;
            } else if (c >= '0' && c <= '9') {
                sort = 'n';
                while (j < text.length() && text.charAt(j) >= '0' && text.charAt(j) <= '9') j++;
            } else if ((c == '<' || c == '>') && j < text.length() && text.charAt(j) == '=') {
                j++;
            }
            all.add(new Token(i, sort, text.substring(i, j)));
            i = j;
        }
        all.add(new Token(text.length(), '.', ""));
        return all;
    }

    static final class Parser {
        final List<Token> tokens;
        final List<String> words;
        int next;
        int values;

        Parser(String text, List<String> words) {
            tokens = pieces(text);
            this.words = words;
        }

        Token peek() { return tokens.get(next); }
        boolean is(String text) { return peek().text.equals(text); }

        boolean skip(String text) {
            if (!is(text)) return false;
            next++;
            return true;
        }

        void need(String text) {
            if (!skip(text)) throw new Fault(peek().place, 0);
        }

        int number(int lo, int hi) {
            Token t = peek();
            if (t.sort != 'n') throw new Fault(t.place, 0);
            if (t.text.length() > 5) throw new Fault(t.place, 1);
            int v = Integer.parseInt(t.text);
            if (v < lo || v > hi) throw new Fault(t.place, 1);
            next++;
            return v;
        }

        void spend(Token t) {
            if (++values > 60) throw new Fault(t.place, 3);
        }

        ToLongFunction<Env> value() {
            Token t = peek();
            if (t.sort == 'n') {
                long v = number(0, 99999);
                spend(t);
                return e -> v;
            }
            if (t.sort != 'w' || !words.contains(t.text)) throw new Fault(t.place, 0);
            spend(t);
            next++;
            return e -> e.word(t.text);
        }

        ToLongFunction<Env> term() {
            ToLongFunction<Env> left = value();
            while (is("*") || is("/")) {
                boolean times = skip("*") || !skip("/");
                ToLongFunction<Env> a = left, b = value();
                left = times ? e -> a.applyAsLong(e) * b.applyAsLong(e)
                    : e -> b.applyAsLong(e) == 0 ? 0 : a.applyAsLong(e) / b.applyAsLong(e);
            }
            return left;
        }

        ToLongFunction<Env> sum() {
            ToLongFunction<Env> left = term();
            while (is("+") || is("-")) {
                boolean plus = skip("+") || !skip("-");
                ToLongFunction<Env> a = left, b = term();
                left = plus ? e -> a.applyAsLong(e) + b.applyAsLong(e) : e -> a.applyAsLong(e) - b.applyAsLong(e);
            }
            return left;
        }

        Predicate<Env> test(int deep) {
            Predicate<Env> left = part(deep);
            while (skip("or")) left = left.or(part(deep));
            return left;
        }

        Predicate<Env> part(int deep) {
            Predicate<Env> left = fact(deep);
            while (skip("and")) left = left.and(fact(deep));
            return left;
        }

        Predicate<Env> fact(int deep) {
            Token t = peek();
            if ((is("[") || is("not")) && deep == 10) throw new Fault(t.place, 2);
            if (skip("not")) return fact(deep + 1).negate();
            if (skip("[")) {
                Predicate<Env> inner = test(deep + 1);
                need("]");
                return inner;
            }
            ToLongFunction<Env> a = sum();
            Token sign = peek();
            if (!List.of("<", "<=", "=", ">=", ">").contains(sign.text)) throw new Fault(sign.place, 0);
            spend(sign);
            next++;
            ToLongFunction<Env> b = sum();
            return e -> {
                int c = Long.compare(a.applyAsLong(e), b.applyAsLong(e));
                return switch (sign.text) {
                    case "<" -> c < 0;
                    case "<=" -> c <= 0;
                    case "=" -> c == 0;
                    case ">=" -> c >= 0;
                    default -> c > 0;
                };
            };
        }

        String clause(int ahead, String... sorts) {
            Token t = peek();
            if (!Arrays.asList(sorts).contains(t.text)) throw new Fault(t.place, 0);
            if (ahead == 12) throw new Fault(t.place, 4);
            next++;
            return t.text;
        }

        void over() {
            if (peek().sort != '.') throw new Fault(peek().place, 0);
        }

        LawText law() {
            LawText law = new LawText();
            boolean soft = false;
            int ahead = 0;
            do {
                Token t = peek();
                String sort = clause(ahead++, "breaks", "at", "soft");
                if (sort.equals("soft")) {
                    if (soft) throw new Fault(t.place, 4);
                    soft = true;
                    law.soft = number(1, 99);
                } else {
                    ToLongFunction<Env> sum = sum();
                    law.clauses.add(new LawClause(sort.equals("breaks"), sum, skip("if") ? test(0) : null));
                }
            } while (skip(";"));
            over();
            return law;
        }

        List<Act> doing() {
            List<Act> acts = new ArrayList<>();
            int ahead = 0;
            do {
                String sort = clause(ahead++, "press", "fold", "turn");
                if (sort.equals("press")) {
                    int tight = number(1, 99);
                    acts.add(new Act(sort, tight, skip("times") ? number(1, 60) : 1, 0));
                } else if (sort.equals("fold")) {
                    if (!is("upright") && !is("level")) throw new Fault(peek().place, 0);
                    int way = is("level") ? 1 : 0;
                    next++;
                    acts.add(new Act(sort, number(1, 199), 1, way));
                } else {
                    acts.add(new Act(sort, 0, 1, 0));
                }
            } while (skip(";"));
            over();
            return acts;
        }

        List<Look> rule() {
            List<Look> looks = new ArrayList<>();
            int ahead = 0;
            do {
                looks.add(new Look(clause(ahead++, "see", "miss").equals("see"), test(0)));
            } while (skip(";"));
            over();
            return looks;
        }

        StripText strip() {
            StripText s = new StripText(new ArrayList<>(), new ArrayList<>());
            s.parts.add(number(1, 9999));
            while (is("M") || is("V")) {
                if (s.folds.size() == 20) throw new Fault(peek().place, 4);
                s.folds.add(peek().text.charAt(0));
                next++;
                s.parts.add(number(1, 9999));
            }
            over();
            return s;
        }
    }

    // ==== the state

    private String tape = "";
    private final List<LawText> laws = new ArrayList<>();
    private final List<List<Act>> doings = new ArrayList<>();
    private final List<List<Look>> rules = new ArrayList<>();
    private final List<StripText> strips = new ArrayList<>();
    private List<Paper> papers = new ArrayList<>();
    private final Map<Integer, List<Paper>> images = new HashMap<>();

    private static <T> T get(List<T> list, int i) { return i >= 0 && i < list.size() ? list.get(i) : null; }

    private static boolean in(int v, int lo, int hi) { return lo <= v && v <= hi; }

    // ==== the face

    public int feed(int a, int b, int c, int d, int e) {
        if (tape.length() + 20 > 400) return NONE;
        StringBuilder s = new StringBuilder(tape);
        for (int v : new int[] {a, b, c, d, e}) {
            s.append((char) (v >>> 24)).append((char) (v >>> 16 & 255)).append((char) (v >>> 8 & 255)).append((char) (v & 255));
        }
        tape = s.toString();
        return tape.length();
    }

    public int end(int n) {
        if (!in(n, 0, tape.length())) return NONE;
        tape = tape.substring(0, n);
        return n;
    }

    public int text(int sort) {
        List<List<?>> lists = List.of(laws, doings, rules, strips);
        if (!in(sort, 0, 3) || lists.get(sort).size() == 6) return NONE;
        String text = tape;
        tape = "";
        try {
            List<String> words = List.of("long", "short", "area", "round", "tight", "edge", "way", "total");
            if (sort == 0) laws.add(new Parser(text, words).law());
            if (sort == 1) doings.add(new Parser(text, List.of()).doing());
            words = List.of("length", "round", "used", "kind", "way", "place", "ends", "now");
            if (sort == 2) rules.add(new Parser(text, words).rule());
            if (sort == 3) strips.add(new Parser(text, List.of()).strip());
        } catch (Fault f) {
            return -2 - f.number;
        }
        return lists.get(sort).size() - 1;
    }

    public int sheet(int wide, int high, int law, int seed) {
        LawText told = get(laws, law);
        if (papers.size() == 6 || told == null || !in(wide, 2, 200) || !in(high, 2, 200) || seed < 0) return NONE;
        papers.add(new Paper(wide, high, told, seed));
        return papers.size() - 1;
    }

    public int press(int sheet, int tight) {
        Paper p = get(papers, sheet);
        return p == null || !in(tight, 1, 99) ? NONE : p.press(tight);
    }

    public int fold(int sheet, int way, int place) {
        Paper p = get(papers, sheet);
        return p == null || !in(way, 0, 1) ? NONE : p.fold(way, place);
    }

    public boolean turn(int sheet) {
        Paper p = get(papers, sheet);
        if (p == null) return false;
        p.turn();
        return true;
    }

    private static int act(List<Act> acts, Paper p) {
        int n = 0;
        for (Act a : acts) {
            for (int i = 0; i < a.times; i++) {
                int answer = 0;
                if (a.sort.equals("press")) answer = p.press(a.number);
                if (a.sort.equals("fold")) answer = p.fold(a.way, a.number);
                if (a.sort.equals("turn")) p.turn();
                if (answer < 0) return n;
                n++;
            }
        }
        return n;
    }

    public int done(int doing, int sheet) {
        List<Act> d = get(doings, doing);
        Paper p = get(papers, sheet);
        return d == null || p == null ? NONE : act(d, p);
    }

    public int facet(int sheet, int facet, int what) {
        Paper p = get(papers, sheet);
        Cut c = p == null ? null : get(p.cuts, facet);
        if (c == null || !in(what, 0, 4)) return NONE;
        return new int[] {c.x, c.y, c.wide, c.high, p.edge(c)}[what];
    }

    public int ridge(int sheet, int ridge, int what) {
        Paper p = get(papers, sheet);
        Crease c = p == null ? null : get(p.creases, ridge);
        if (c == null || !in(what, 0, 6)) return NONE;
        return new int[] {c.way, c.place, c.from, c.to, c.round, c.kind, c.used}[what];
    }

    public int of(int sheet, int what) {
        Paper p = get(papers, sheet);
        if (p == null || !in(what, 0, 6)) return NONE;
        return new int[] {p.wide, p.high, p.round, p.cuts.size(), p.creases.size(), (int) p.total(),
            (int) p.creases.stream().filter(p::soft).count()}[what];
    }

    public int length(int sheet, int round) {
        Paper p = get(papers, sheet);
        return p == null || !in(round, 0, 60) ? NONE : p.upTo(round);
    }

    public int adds(int sheet, int round) {
        Paper p = get(papers, sheet);
        return p == null || !in(round, 0, 60) ? NONE : p.in(round);
    }

    public int expected(int sheet, int tight, int what) {
        Paper p = get(papers, sheet);
        return p == null || !in(tight, 1, 99) || !in(what, 0, 1) ? NONE : (int) p.expected(tight, what == 0);
    }

    public int foretold(int sheet, int round) {
        Paper p = get(papers, sheet);
        return p == null || !in(round, 1, p.round) ? NONE : (int) (long) p.foretold.get(round);
    }

    public int miss(int sheet, int from, int to) {
        Paper p = get(papers, sheet);
        if (p == null || from < 1 || to > p.round || to < from) return NONE;
        long sum = 0;
        for (int r = from; r <= to; r++) {
            int round = r;
            long pressed = p.creases.stream().filter(c -> c.round == round && c.kind == 0).mapToLong(Crease::length).sum();
            sum += Math.abs(1000 * pressed - p.foretold.get(r));
        }
        return (int) sum;
    }

    public int guess(int sheet, int other) {
        Paper p = get(papers, sheet), o = get(papers, other);
        if (p == null || o == null || p == o) return NONE;
        if (o.round == 0) return -2;
        int best = 0;
        for (int r = 1; r < o.round; r++) {
            if (Math.abs(o.upTo(r) - p.total()) < Math.abs(o.upTo(best) - p.total())) best = r;
        }
        return o.in(best + 1);
    }

    public int curve(int sheet, int what) {
        Paper p = get(papers, sheet);
        if (p == null || !in(what, 0, 1)) return NONE;
        if (p.round == 0) return -2;
        int c = IntStream.rangeClosed(1, p.round).map(r -> p.in(r) * r).sum() / p.round;
        return what == 0 ? c : IntStream.rangeClosed(1, p.round).map(r -> Math.abs(p.in(r) - c / r)).sum();
    }

    public int sizes(int sheet, int what) {
        Paper p = get(papers, sheet);
        if (p == null || !in(what, 0, 2)) return NONE;
        int[] areas = p.cuts.stream().mapToInt(Cut::area).sorted().toArray();
        return areas[what == 0 ? 0 : what == 1 ? areas.length - 1 : (areas.length - 1) / 2];
    }

    public int classes(int sheet, int k) {
        Paper p = get(papers, sheet);
        return p == null || !in(k, 0, 15) ? NONE : p.classOf(k);
    }

    public int apart(int sheet, int other) {
        Paper p = get(papers, sheet), o = get(papers, other);
        return p == null || o == null || p == o ? NONE : p.apart(o);
    }

    public int likest(int sheet) {
        Paper p = get(papers, sheet);
        if (p == null) return NONE;
        int best = -2;
        for (int i = 0; i < papers.size(); i++) {
            if (i != sheet && (best < 0 || p.apart(papers.get(i)) < p.apart(papers.get(best)))) best = i;
        }
        return best;
    }

    private static List<Crease> seenBy(List<Look> rule, Paper p) {
        List<Crease> all = new ArrayList<>();
        boolean noSee = rule.stream().noneMatch(Look::see);
        for (Crease c : p.creases) {
            Env e = p.env(c);
            boolean see = noSee || rule.stream().anyMatch(l -> l.see && l.test.test(e));
            boolean miss = rule.stream().anyMatch(l -> !l.see && l.test.test(e));
            if (see && !miss) all.add(c);
        }
        return all;
    }

    /** The LOOSE ends as points, x, y and the way of the RIDGE. */
    private static List<int[]> loose(List<Crease> seen, Paper p) {
        List<int[]> all = new ArrayList<>();
        for (Crease c : seen) {
            for (int e : new int[] {c.from, c.to}) {
                int x = c.way == 0 ? c.place : e;
                int y = c.way == 0 ? e : c.place;
                if (x == 0 || y == 0 || x == p.wide || y == p.high) continue;
                if (seen.stream().noneMatch(o -> o.way != c.way && o.covers(x, y))) all.add(new int[] {x, y, c.way});
            }
        }
        return all;
    }

    public int seen(int rule, int sheet, int what) {
        List<Look> r = get(rules, rule);
        Paper p = get(papers, sheet);
        if (r == null || p == null || !in(what, 0, 2)) return NONE;
        List<Crease> seen = seenBy(r, p);
        return what == 0 ? seen.size() : what == 1 ? seen.stream().mapToInt(Crease::length).sum() : loose(seen, p).size();
    }

    public int right(int rule, int sheet, int what) {
        List<Look> r = get(rules, rule);
        Paper p = get(papers, sheet);
        if (r == null || p == null || !in(what, 0, 1)) return NONE;
        List<Crease> seen = seenBy(r, p);
        List<int[]> loose = loose(seen, p);
        int many = 0, first = -2;
        for (int i = 0; i < p.creases.size(); i++) {
            Crease c = p.creases.get(i);
            if (seen.stream().anyMatch(s -> s == c)) continue;
            if (loose.stream().anyMatch(l -> l[2] != c.way && c.covers(l[0], l[1]))) {
                many++;
                if (first < 0) first = i;
            }
        }
        return what == 0 ? many : first;
    }

    public int often(int rule, int sheet, int other) {
        List<Look> r = get(rules, rule);
        Paper p = get(papers, sheet), o = get(papers, other);
        if (r == null || p == null || o == null) return NONE;
        int length = seenBy(r, p).stream().mapToInt(Crease::length).sum();
        return IntStream.rangeClosed(0, o.round).filter(n -> o.upTo(n) >= length).findFirst().orElse(-2);
    }

    private static int count(boolean[] arms) {
        return (int) IntStream.range(0, 4).filter(i -> arms[i]).count();
    }

    public int corners(int sheet, int what) {
        Paper p = get(papers, sheet);
        if (p == null || what != 0 && !in(what, 2, 4)) return NONE;
        return (int) p.corners().stream().filter(a -> what == 0 || count(a) == what).count();
    }

    public int flat(int sheet) {
        Paper p = get(papers, sheet);
        if (p == null) return NONE;
        return p.corners().stream().allMatch(a -> count(a) == 4 || count(a) == 2 && a[0] == a[1]) ? 1 : 0;
    }

    public int strength(int sheet, int tight) {
        Paper p = get(papers, sheet);
        if (p == null || !in(tight, 1, 99)) return NONE;
        long sum = p.creases.stream().mapToLong(c -> c.length() * c.used / (p.soft(c) ? 2 : 1)).sum();
        return (int) (sum * 100 / tight);
    }

    public int strip(int strip, int what) {
        StripText s = get(strips, strip);
        if (s == null || !in(what, 0, 5)) return -2;
        if (what == 5) {
            int best = NONE, fewest = 99;
            for (int i = 0; i < s.folds.size(); i++) {
                List<Character> folds = new ArrayList<>(s.folds);
                folds.set(i, folds.get(i) == 'M' ? 'V' : 'M');
                int left = reduce(new StripText(s.parts, folds)).left;
                if (left < fewest) {
                    fewest = left;
                    best = i;
                }
            }
            return best;
        }
        Reduced r = reduce(s);
        return new int[] {s.folds.size(), r.left == 0 ? 1 : 0, r.steps, r.left, r.first}[what];
    }

    public int beside(int sheet, int facet) {
        Paper p = get(papers, sheet);
        return p == null || get(p.cuts, facet) == null ? NONE : p.beside().get(facet).size();
    }

    public int most(int sheet) {
        Paper p = get(papers, sheet);
        if (p == null) return NONE;
        int[] sizes = p.beside().stream().mapToInt(Set::size).toArray();
        int most = Arrays.stream(sizes).max().getAsInt();
        return IntStream.range(0, sizes.length).filter(i -> sizes[i] == most).findFirst().getAsInt();
    }

    public int steps(int sheet, int from, int to) {
        Paper p = get(papers, sheet);
        if (p == null || get(p.cuts, from) == null || get(p.cuts, to) == null) return NONE;
        return p.walk(p.beside(), from)[to];
    }

    public int heart(int sheet, int what) {
        Paper p = get(papers, sheet);
        if (p == null || !in(what, 0, 1)) return NONE;
        List<Set<Integer>> beside = p.beside();
        int best = 0, least = 1000;
        for (int i = 0; i < p.cuts.size(); i++) {
            int far = Arrays.stream(p.walk(beside, i)).max().getAsInt();
            if (far < least) {
                least = far;
                best = i;
            }
        }
        return what == 0 ? best : least;
    }

    public int after(int doing, int sheet, int what) {
        List<Act> d = get(doings, doing);
        Paper p = get(papers, sheet);
        if (d == null || p == null || !in(what, 0, 2)) return NONE;
        Paper copy = p.copy();
        int acts = act(d, copy);
        return what == 0 ? acts : what == 1 ? copy.cuts.size() : (int) copy.total();
    }

    private static int alike(Paper p, List<Act> d) {
        Paper fresh = new Paper(p.toldWide, p.toldHigh, p.law, p.toldSeed);
        act(d, fresh);
        Set<List<Integer>> spots = new HashSet<>();
        fresh.creases.forEach(c -> spots.add(c.spot()));
        return (int) p.creases.stream().filter(c -> spots.contains(c.spot())).count();
    }

    public int alike(int sheet, int doing) {
        List<Act> d = get(doings, doing);
        Paper p = get(papers, sheet);
        return d == null || p == null ? NONE : alike(p, d);
    }

    public int which(int sheet) {
        Paper p = get(papers, sheet);
        if (p == null) return NONE;
        int most = doings.stream().mapToInt(d -> alike(p, d)).max().orElse(-1);
        return IntStream.range(0, doings.size()).filter(i -> alike(p, doings.get(i)) == most).findFirst().orElse(-2);
    }

    public int runs(int doing, int sheet, int seed, int n, int bar) {
        List<Act> d = get(doings, doing);
        Paper p = get(papers, sheet);
        if (d == null || p == null || seed < 0 || !in(n, 1, 10) || !in(bar, 0, 99999)) return NONE;
        int many = 0;
        long x = seed;
        for (int i = 0; i < n; i++) {
            Paper fresh = new Paper(p.toldWide, p.toldHigh, p.law, (int) x);
            act(d, fresh);
            if (fresh.total() >= bar) many++;
            x = fresh.x;
        }
        return many;
    }

    public int until(int sheet, int tight, int longs) {
        Paper p = get(papers, sheet);
        if (p == null || !in(tight, 1, 99) || !in(longs, 1, 200)) return NONE;
        Paper copy = p.copy();
        int times = 0;
        while (copy.cuts.stream().anyMatch(c -> c.longSide() > longs)) {
            if (copy.press(tight) < 0) return -2;
            times++;
        }
        return times;
    }

    public int halves(int m, int n) {
        if (!in(m, 1, 999) || !in(n, 1, 999)) return NONE;
        int k = 0;
        for (int v : new int[] {m, n}) {
            for (; v > 1; v = (v + 1) / 2) k++;
        }
        return k;
    }

    public int count(int what) {
        if (!in(what, 0, 7)) return NONE;
        return new int[] {papers.size(), laws.size(), doings.size(), rules.size(), strips.size(),
            papers.stream().mapToInt(p -> p.cuts.size()).sum(), papers.stream().mapToInt(p -> p.creases.size()).sum(),
            tape.length()}[what];
    }

    private static List<Paper> copies(List<Paper> from) {
        List<Paper> all = new ArrayList<>();
        from.forEach(p -> all.add(p.copy()));
        return all;
    }

    public int image(int k) {
        if (!in(k, 0, 3)) return NONE;
        images.put(k, copies(papers));
        return papers.size();
    }

    public int back(int k) {
        if (!images.containsKey(k)) return NONE;
        papers = copies(images.get(k));
        return papers.size();
    }
}
