/** A sheet crumpled in a fist: what each call answers is told in ../shared/DOC.md, promise by promise. */
public final class CrumpledSheet {
    public static final int NONE = -1;

    private static final int NOT_THERE = -2;
    /** Lies above all that is compared where the least is looked for. */
    private static final int ABOVE_ALL = 2147483647;

    private static final int MOST_BYTES = 400;
    private static final int FED_BYTES = 20;
    private static final int MOST_SHEETS = 6;
    private static final int MOST_TEXTS = 6;
    private static final int MOST_IMAGES = 4;
    private static final int MOST_FACETS = 200;
    private static final int MOST_RIDGES = 400;
    private static final int MOST_ROUNDS = 60;
    private static final int MOST_TIGHT = 99;
    private static final int LEAST_SIDE = 2;
    private static final int MOST_SIDE = 200;
    private static final int SIZE_CLASSES = 16;
    private static final int MOST_RUNS = 10;
    private static final int MOST_BAR = 99999;
    private static final int MOST_FIELDS = 999;

    private static final int LAWS = 0;
    private static final int DOINGS = 1;
    private static final int RULES = 2;
    private static final int STRIPS = 3;
    private static final int SORTS = 4;

    private static final int UPRIGHT = 0;
    private static final int LEVEL = 1;

    private static final int PRESSED = 0;
    private static final int FOLDED = 1;

    private static final int X = 0;
    private static final int Y = 1;
    private static final int WIDE = 2;
    private static final int HIGH = 3;
    private static final int FACET_PARTS = 4;
    private static final int EDGE = 4;

    private static final int WAY = 0;
    private static final int PLACE = 1;
    private static final int FROM = 2;
    private static final int TO = 3;
    private static final int ROUND = 4;
    private static final int KIND = 5;
    private static final int USED = 6;
    private static final int RIDGE_PARTS = 7;

    private static final int MOST_CLAUSES = 12;
    private static final int MOST_DIGITS = 5;
    private static final int MOST_NUMBER = 99999;
    private static final int MOST_DEEP = 10;
    private static final int MOST_VALUES = 60;
    private static final int MOST_STRIP_FOLDS = 20;
    private static final int MOST_PART_LENGTH = 9999;
    private static final int MOST_PLACE = 199;
    private static final int MOST_TIMES = 60;

    private static final int UNFIT = 0;
    private static final int BAD_NUMBER = 1;
    private static final int TOO_DEEP = 2;
    private static final int TOO_MANY_VALUES = 3;
    private static final int TOO_MANY_CLAUSES = 4;

    private static final String LAW_WORDS = "long short area round tight edge way total";
    private static final String RULE_WORDS = "length round used kind way place ends now";
    private static final int WORDS = 8;

    private static final String LAW_CLAUSES = "breaks at soft";
    private static final int BREAKS = 0;
    private static final int AT = 1;
    private static final int SOFT = 2;
    private static final int MOST_BREAKS = 1000;
    private static final int MOST_AT = 1000000;
    /** Lies outside of all that a held SUM can be, so that it can stand for "no CLAUSE tells". */
    private static final int NO_CLAUSE = -2147483648;

    private static final String DOING_CLAUSES = "press fold turn";
    private static final int PRESS = 0;
    private static final int FOLD = 1;

    private static final String RULE_CLAUSES = "see miss";
    private static final int SEE = 0;

    private static final int NUMBER = 0;
    private static final int WORD = 1;
    private static final int PLUS = 2;
    private static final int MINUS = 3;
    private static final int TIMES = 4;
    private static final int BY = 5;
    private static final int LESS = 6;
    private static final int LESS_OR_ALIKE = 7;
    private static final int ALIKE = 8;
    private static final int MORE_OR_ALIKE = 9;
    private static final int MORE = 10;
    private static final int NOT = 11;
    private static final int AND = 12;
    private static final int OR = 13;

    private final int[] tape = new int[MOST_BYTES];
    private int tapeLength;
    private final Reader reader = new Reader(tape);
    private final int[] textCounts = new int[SORTS];
    private final Law[] laws = new Law[MOST_TEXTS];
    private final Doing[] doings = new Doing[MOST_TEXTS];
    private final Rule[] rules = new Rule[MOST_TEXTS];
    private final Strip[] strips = new Strip[MOST_TEXTS];
    // stands where no LAW was told yet, so that no SHEET is ever without one
    private final Law noLaw = new Law();
    private final Pile pile = new Pile(noLaw);
    private final Pile[] images = new Pile[MOST_IMAGES];
    private final Sheet trial = new Sheet(noLaw);
    private final Sight sight = new Sight(trial);
    private final Corners net = new Corners();
    private final Neighbours neighbours = new Neighbours();

    public CrumpledSheet() {
        for (int i = 0; i < MOST_TEXTS; i++) {
            laws[i] = new Law();
            doings[i] = new Doing();
            rules[i] = new Rule();
            strips[i] = new Strip();
        }
        for (int i = 0; i < MOST_IMAGES; i++) {
            images[i] = new Pile(noLaw);
        }
    }

    // ==== The face: TAPE and texts

    public int feed(int a, int b, int c, int d, int e) {
        if (tapeLength + FED_BYTES > MOST_BYTES) {
            return NONE;
        }
        feedNumber(a);
        feedNumber(b);
        feedNumber(c);
        feedNumber(d);
        feedNumber(e);
        return tapeLength;
    }

    private void feedNumber(int number) {
        for (int shift = 24; shift >= 0; shift -= 8) {
            put(tape, tapeLength, (number >>> shift) & 255);
            tapeLength++;
        }
    }

    public int end(int n) {
        if (n < 0 || n > tapeLength) {
            return NONE;
        }
        tapeLength = n;
        return n;
    }

    public int text(int sort) {
        int number = within(sort, 0, SORTS - 1) ? at(textCounts, sort) : NONE;
        if (!within(number, 0, MOST_TEXTS - 1)) {
            return NONE;
        }
        int fault;
        if (sort == LAWS) {
            fault = reader.readLaw(laws[number], tapeLength);
        } else if (sort == DOINGS) {
            fault = reader.readDoing(doings[number], tapeLength);
        } else if (sort == RULES) {
            fault = reader.readRule(rules[number], tapeLength);
        } else {
            fault = reader.readStrip(strips[number], tapeLength);
        }
        tapeLength = 0;
        if (fault != 0) {
            return NOT_THERE - fault;
        }
        put(textCounts, sort, number + 1);
        return number;
    }

    // ==== The face: SHEETS

    public int sheet(int wide, int high, int law, int seed) {
        Law told = lawAt(law);
        boolean asTold = within(wide, LEAST_SIDE, MOST_SIDE) && within(high, LEAST_SIDE, MOST_SIDE) && seed >= 0;
        if (told == null || !asTold || pile.size() >= MOST_SHEETS) {
            return NONE;
        }
        return pile.put(wide, high, told, seed);
    }

    public int press(int sheet, int tight) {
        Sheet one = pile.get(sheet);
        if (one == null || !isTight(tight)) {
            return NONE;
        }
        return one.crush(tight);
    }

    public int fold(int sheet, int way, int place) {
        Sheet one = pile.get(sheet);
        if (one == null || !within(way, UPRIGHT, LEVEL)) {
            return NONE;
        }
        return one.crease(way, place);
    }

    public boolean turn(int sheet) {
        Sheet one = pile.get(sheet);
        if (one == null) {
            return false;
        }
        one.changeSides();
        return true;
    }

    public int done(int doing, int sheet) {
        Doing told = doingAt(doing);
        Sheet one = pile.get(sheet);
        if (told == null || one == null) {
            return NONE;
        }
        return told.doTo(one);
    }

    public int facet(int sheet, int facet, int what) {
        Sheet one = pile.get(sheet);
        if (one == null || !within(facet, 0, one.facetCount() - 1) || !within(what, 0, EDGE)) {
            return NONE;
        }
        return what == EDGE ? one.edgeOf(facet) : one.facetPart(facet, what);
    }

    public int ridge(int sheet, int ridge, int what) {
        Sheet one = pile.get(sheet);
        if (one == null || !within(ridge, 0, one.ridgeCount() - 1) || !within(what, 0, RIDGE_PARTS - 1)) {
            return NONE;
        }
        return one.ridgePart(ridge, what);
    }

    public int of(int sheet, int what) {
        Sheet one = pile.get(sheet);
        if (one == null) {
            return NONE;
        }
        switch (what) {
            case 0: return one.side(UPRIGHT);
            case 1: return one.side(LEVEL);
            case 2: return one.rounds();
            case 3: return one.facetCount();
            case 4: return one.ridgeCount();
            case 5: return one.lengthOfAll();
            case 6: return one.softRidges();
            default: return NONE;
        }
    }

    // ==== The face: lengths by ROUNDS, sizes

    public int length(int sheet, int round) {
        Sheet one = pile.get(sheet);
        if (one == null || !within(round, 0, MOST_ROUNDS)) {
            return NONE;
        }
        return one.lengthOfRounds(0, round);
    }

    public int adds(int sheet, int round) {
        Sheet one = pile.get(sheet);
        if (one == null || !within(round, 0, MOST_ROUNDS)) {
            return NONE;
        }
        return one.lengthOfRounds(round, round);
    }

    public int expected(int sheet, int tight, int what) {
        Sheet one = pile.get(sheet);
        if (one == null || !isTight(tight) || !within(what, 0, 1)) {
            return NONE;
        }
        return one.expectedBreaks(tight, one.lengthOfAll(), what == 0);
    }

    public int foretold(int sheet, int round) {
        Sheet one = pile.get(sheet);
        if (one == null || !within(round, 1, one.rounds())) {
            return NONE;
        }
        return one.foretoldOf(round);
    }

    public int miss(int sheet, int from, int to) {
        Sheet one = pile.get(sheet);
        if (one == null || from < 1 || to < from || to > one.rounds()) {
            return NONE;
        }
        return one.missOfRounds(from, to);
    }

    public int guess(int sheet, int other) {
        Sheet one = pile.get(sheet);
        Sheet two = pile.get(other);
        if (one == null || two == null || sheet == other) {
            return NONE;
        }
        return two.rounds() == 0 ? NOT_THERE : two.addsBehind(one.lengthOfAll());
    }

    public int curve(int sheet, int what) {
        Sheet one = pile.get(sheet);
        if (one == null || !within(what, 0, 1)) {
            return NONE;
        }
        if (one.rounds() == 0) {
            return NOT_THERE;
        }
        return what == 0 ? one.curveHeight() : one.offCurve();
    }

    public int sizes(int sheet, int what) {
        Sheet one = pile.get(sheet);
        if (one == null) {
            return NONE;
        }
        switch (what) {
            case 0: return one.areaOfRank(0);
            case 1: return one.areaOfRank(one.facetCount() - 1);
            case 2: return one.areaOfRank((one.facetCount() - 1) / 2);
            default: return NONE;
        }
    }

    public int classes(int sheet, int k) {
        Sheet one = pile.get(sheet);
        if (one == null || !within(k, 0, SIZE_CLASSES - 1)) {
            return NONE;
        }
        return one.facetsOfClass(k);
    }

    public int apart(int sheet, int other) {
        Sheet one = pile.get(sheet);
        Sheet two = pile.get(other);
        if (one == null || two == null || sheet == other) {
            return NONE;
        }
        return one.apartFrom(two);
    }

    public int likest(int sheet) {
        Sheet one = pile.get(sheet);
        if (one == null) {
            return NONE;
        }
        int best = NOT_THERE;
        int least = ABOVE_ALL;
        for (int i = 0; i < pile.size(); i++) {
            Sheet other = pile.get(i);
            int apart = other == null || i == sheet ? ABOVE_ALL : one.apartFrom(other);
            if (apart < least) {
                least = apart;
                best = i;
            }
        }
        return best;
    }

    // ==== The face: readers, CORNERS, STRENGTH

    public int seen(int rule, int sheet, int what) {
        Rule told = ruleAt(rule);
        Sheet one = pile.get(sheet);
        if (told == null || one == null || !within(what, 0, 2)) {
            return NONE;
        }
        sight.look(told, one);
        if (what == 0) {
            return sight.seenRidges();
        }
        return what == 1 ? sight.seenLength() : sight.looseEnds();
    }

    public int right(int rule, int sheet, int what) {
        Rule told = ruleAt(rule);
        Sheet one = pile.get(sheet);
        if (told == null || one == null || !within(what, 0, 1)) {
            return NONE;
        }
        sight.look(told, one);
        return what == 0 ? sight.rightRidges() : sight.firstRight();
    }

    public int often(int rule, int sheet, int other) {
        Rule told = ruleAt(rule);
        Sheet one = pile.get(sheet);
        Sheet two = pile.get(other);
        if (told == null || one == null || two == null) {
            return NONE;
        }
        sight.look(told, one);
        return two.firstRoundNotBelow(sight.seenLength());
    }

    public int corners(int sheet, int what) {
        Sheet one = pile.get(sheet);
        if (one == null || what != 0 && !within(what, 2, 4)) {
            return NONE;
        }
        net.draw(one);
        return what == 0 ? net.all() : net.withArms(what);
    }

    public int flat(int sheet) {
        Sheet one = pile.get(sheet);
        if (one == null) {
            return NONE;
        }
        net.draw(one);
        return net.liesFlat() ? 1 : 0;
    }

    public int strength(int sheet, int tight) {
        Sheet one = pile.get(sheet);
        if (one == null || !isTight(tight)) {
            return NONE;
        }
        return one.strengthAt(tight);
    }

    // ==== The face: STRIPS and maps

    public int strip(int strip, int what) {
        Strip one = stripAt(strip);
        if (one == null) {
            return NOT_THERE;
        }
        one.reduce(NONE);
        switch (what) {
            case 0: return one.foldCount();
            case 1: return one.foldsLeft() == 0 ? 1 : 0;
            case 2: return one.stepsTaken();
            case 3: return one.foldsLeft();
            case 4: return one.firstPartLeft();
            case 5: return one.deepestFold();
            default: return NOT_THERE;
        }
    }

    public int halves(int m, int n) {
        if (!within(m, 1, MOST_FIELDS) || !within(n, 1, MOST_FIELDS)) {
            return NONE;
        }
        return halvings(m) + halvings(n);
    }

    private static int halvings(int fields) {
        int k = 0;
        while (k < 30 && (1 << k) < fields) {
            k++;
        }
        return k;
    }

    // ==== The face: FACETS beside one another

    public int beside(int sheet, int facet) {
        Sheet one = pile.get(sheet);
        if (one == null || !within(facet, 0, one.facetCount() - 1)) {
            return NONE;
        }
        neighbours.find(one);
        return neighbours.countOf(facet);
    }

    public int most(int sheet) {
        Sheet one = pile.get(sheet);
        if (one == null) {
            return NONE;
        }
        neighbours.find(one);
        return neighbours.richest();
    }

    public int steps(int sheet, int from, int to) {
        Sheet one = pile.get(sheet);
        if (one == null || !within(from, 0, one.facetCount() - 1) || !within(to, 0, one.facetCount() - 1)) {
            return NONE;
        }
        neighbours.find(one);
        neighbours.walkFrom(from);
        return neighbours.stepsTo(to);
    }

    public int heart(int sheet, int what) {
        Sheet one = pile.get(sheet);
        if (one == null || !within(what, 0, 1)) {
            return NONE;
        }
        neighbours.find(one);
        int middle = neighbours.middle();
        return what == 0 ? middle : neighbours.walkFrom(middle);
    }

    // ==== The face: what would be

    public int after(int doing, int sheet, int what) {
        Doing told = doingAt(doing);
        Sheet one = pile.get(sheet);
        if (told == null || one == null || !within(what, 0, 2)) {
            return NONE;
        }
        trial.becomeLike(one);
        int acts = told.doTo(trial);
        if (what == 0) {
            return acts;
        }
        return what == 1 ? trial.facetCount() : trial.lengthOfAll();
    }

    public int alike(int sheet, int doing) {
        Doing told = doingAt(doing);
        Sheet one = pile.get(sheet);
        if (told == null || one == null) {
            return NONE;
        }
        return alikeAfresh(one, told);
    }

    public int which(int sheet) {
        Sheet one = pile.get(sheet);
        if (one == null) {
            return NONE;
        }
        int best = NOT_THERE;
        int most = NONE;
        for (int i = 0; i < MOST_TEXTS; i++) {
            Doing told = doingAt(i);
            int alikes = told == null ? NONE : alikeAfresh(one, told);
            if (alikes > most) {
                most = alikes;
                best = i;
            }
        }
        return best;
    }

    private int alikeAfresh(Sheet one, Doing told) {
        trial.beginAfresh(one, one.seedTold());
        told.doTo(trial);
        return one.ridgesAlsoOf(trial);
    }

    public int runs(int doing, int sheet, int seed, int n, int bar) {
        Doing told = doingAt(doing);
        Sheet one = pile.get(sheet);
        boolean asTold = seed >= 0 && within(n, 1, MOST_RUNS) && within(bar, 0, MOST_BAR);
        if (told == null || one == null || !asTold) {
            return NONE;
        }
        int reached = 0;
        int next = seed;
        for (int i = 0; i < n; i++) {
            trial.beginAfresh(one, next);
            told.doTo(trial);
            if (trial.lengthOfAll() >= bar) {
                reached++;
            }
            next = trial.seedLeft();
        }
        return reached;
    }

    public int until(int sheet, int tight, int longs) {
        Sheet one = pile.get(sheet);
        if (one == null || !isTight(tight) || !within(longs, 1, MOST_SIDE)) {
            return NONE;
        }
        trial.becomeLike(one);
        int times = 0;
        while (times <= MOST_ROUNDS && trial.greatestLong() > longs) {
            if (trial.crush(tight) == NONE) {
                return NOT_THERE;
            }
            times++;
        }
        return times;
    }

    // ==== The face: counts and IMAGES

    public int count(int what) {
        switch (what) {
            case 0: return pile.size();
            case 1: return at(textCounts, LAWS);
            case 2: return at(textCounts, DOINGS);
            case 3: return at(textCounts, RULES);
            case 4: return at(textCounts, STRIPS);
            case 5: return pile.facetsOfAll();
            case 6: return pile.ridgesOfAll();
            case 7: return tapeLength;
            default: return NONE;
        }
    }

    public int image(int k) {
        if (!within(k, 0, MOST_IMAGES - 1)) {
            return NONE;
        }
        images[k].becomeLike(pile);
        return pile.size();
    }

    public int back(int k) {
        if (!within(k, 0, MOST_IMAGES - 1) || !images[k].wasMade()) {
            return NONE;
        }
        pile.becomeLike(images[k]);
        return pile.size();
    }

    // ==== What all parts use

    private Law lawAt(int law) {
        return within(law, 0, at(textCounts, LAWS) - 1) && law < laws.length ? laws[law] : null;
    }

    private Doing doingAt(int doing) {
        return within(doing, 0, at(textCounts, DOINGS) - 1) && doing < doings.length ? doings[doing] : null;
    }

    private Rule ruleAt(int rule) {
        return within(rule, 0, at(textCounts, RULES) - 1) && rule < rules.length ? rules[rule] : null;
    }

    private Strip stripAt(int strip) {
        return within(strip, 0, at(textCounts, STRIPS) - 1) && strip < strips.length ? strips[strip] : null;
    }

    private static boolean isTight(int tight) {
        return within(tight, 1, MOST_TIGHT);
    }

    private static boolean within(long number, long least, long most) {
        return number >= least && number <= most;
    }

    private static long held(long number, long least, long most) {
        return Math.max(least, Math.min(most, number));
    }

    private static int at(int[] row, int place) {
        return place >= 0 && place < row.length ? row[place] : 0;
    }

    private static long at(long[] row, int place) {
        return place >= 0 && place < row.length ? row[place] : 0;
    }

    private static void put(int[] row, int place, int number) {
        if (place >= 0 && place < row.length) {
            row[place] = number;
        }
    }

    private static void put(long[] row, int place, long number) {
        if (place >= 0 && place < row.length) {
            row[place] = number;
        }
    }

    private static void copy(int[] from, int[] into) {
        System.arraycopy(from, 0, into, 0, Math.min(from.length, into.length));
    }

    /** The SUMS and TESTS of one text, each a stretch of steps with every sign behind what it joins. */
    private static final class Code {
        // two waiting joins for each of the ten depths, and what a FACT's two SUMS need, stay far below
        private static final int MOST_WAITING = 64;

        private final int[] signs = new int[MOST_BYTES];
        private final int[] numbers = new int[MOST_BYTES];
        private final long[] waiting = new long[MOST_WAITING];
        private int steps;

        void clear() {
            steps = 0;
        }

        int stepCount() {
            return steps;
        }

        void add(int sign, int number) {
            put(signs, steps, sign);
            put(numbers, steps, number);
            steps++;
        }

        long valueOf(int from, int to, long[] words) {
            int top = 0;
            for (int i = from; i < to; i++) {
                int sign = at(signs, i);
                if (sign == NUMBER) {
                    put(waiting, top, at(numbers, i));
                    top++;
                } else if (sign == WORD) {
                    put(waiting, top, at(words, at(numbers, i)));
                    top++;
                } else if (sign == NOT) {
                    put(waiting, top - 1, 1 - at(waiting, top - 1));
                } else {
                    put(waiting, top - 2, joined(sign, at(waiting, top - 2), at(waiting, top - 1)));
                    top--;
                }
            }
            return at(waiting, top - 1);
        }

        private static long joined(int sign, long a, long b) {
            switch (sign) {
                case PLUS: return a + b;
                case MINUS: return a - b;
                case TIMES: return a * b;
                case BY: return b == 0 ? 0 : a / b;
                case LESS: return a < b ? 1 : 0;
                case LESS_OR_ALIKE: return a <= b ? 1 : 0;
                case ALIKE: return a == b ? 1 : 0;
                case MORE_OR_ALIKE: return a >= b ? 1 : 0;
                case MORE: return a > b ? 1 : 0;
                case AND: return a & b;
                case OR: return a | b;
                default: return 0;
            }
        }
    }

    private static final class Law {
        private final Code code = new Code();
        private final int[] sorts = new int[MOST_CLAUSES];
        private final int[] sumStarts = new int[MOST_CLAUSES];
        private final int[] sumEnds = new int[MOST_CLAUSES];
        private final int[] testEnds = new int[MOST_CLAUSES];
        private int clauses;
        private int soft;

        void clear() {
            code.clear();
            clauses = 0;
            soft = MOST_TIGHT;
        }

        Code program() {
            return code;
        }

        void add(int sort, int sumStart, int sumEnd, int testEnd) {
            put(sorts, clauses, sort);
            put(sumStarts, clauses, sumStart);
            put(sumEnds, clauses, sumEnd);
            put(testEnds, clauses, testEnd);
            clauses++;
        }

        void softFrom(int used) {
            soft = used;
        }

        boolean isSoft(int used) {
            return used >= soft;
        }

        /** The SUM, held, of the first CLAUSE of this sort that speaks; without: the number told for that. */
        int tells(int sort, long[] words, int least, int most, int without) {
            for (int i = 0; i < clauses; i++) {
                int sumEnd = at(sumEnds, i);
                int testEnd = at(testEnds, i);
                if (at(sorts, i) == sort && (sumEnd == testEnd || code.valueOf(sumEnd, testEnd, words) != 0)) {
                    return (int) held(code.valueOf(at(sumStarts, i), sumEnd, words), least, most);
                }
            }
            return without;
        }
    }

    private static final class Doing {
        private final int[] sorts = new int[MOST_CLAUSES];
        private final int[] numbers = new int[MOST_CLAUSES];
        private final int[] times = new int[MOST_CLAUSES];
        private final int[] ways = new int[MOST_CLAUSES];
        private int clauses;

        void clear() {
            clauses = 0;
        }

        void add(int sort, int number, int often, int way) {
            put(sorts, clauses, sort);
            put(numbers, clauses, number);
            put(times, clauses, often);
            put(ways, clauses, way);
            clauses++;
        }

        int doTo(Sheet sheet) {
            int acts = 0;
            for (int i = 0; i < clauses; i++) {
                int sort = at(sorts, i);
                for (int n = 0; n < at(times, i); n++) {
                    int answer = 0;
                    if (sort == PRESS) {
                        answer = sheet.crush(at(numbers, i));
                    } else if (sort == FOLD) {
                        answer = sheet.crease(at(ways, i), at(numbers, i));
                    } else {
                        sheet.changeSides();
                    }
                    if (answer == NONE) {
                        return acts;
                    }
                    acts++;
                }
            }
            return acts;
        }
    }

    private static final class Rule {
        private final Code code = new Code();
        private final int[] sorts = new int[MOST_CLAUSES];
        private final int[] testStarts = new int[MOST_CLAUSES];
        private final int[] testEnds = new int[MOST_CLAUSES];
        private int clauses;

        void clear() {
            code.clear();
            clauses = 0;
        }

        Code program() {
            return code;
        }

        void add(int sort, int testStart, int testEnd) {
            put(sorts, clauses, sort);
            put(testStarts, clauses, testStart);
            put(testEnds, clauses, testEnd);
            clauses++;
        }

        boolean sees(long[] words) {
            boolean mustBeSeen = false;
            boolean isSeen = false;
            for (int i = 0; i < clauses; i++) {
                boolean holds = code.valueOf(at(testStarts, i), at(testEnds, i), words) != 0;
                if (at(sorts, i) == SEE) {
                    mustBeSeen = true;
                    isSeen = isSeen || holds;
                } else if (holds) {
                    return false;
                }
            }
            return isSeen || !mustBeSeen;
        }
    }

    private static final class Strip {
        private final int[] parts = new int[MOST_STRIP_FOLDS + 1];
        private final int[] folds = new int[MOST_STRIP_FOLDS];
        private int foldsTold;
        private final int[] leftParts = new int[MOST_STRIP_FOLDS + 1];
        private final int[] leftFolds = new int[MOST_STRIP_FOLDS];
        private int left;
        private int steps;

        void begin(int part) {
            foldsTold = 0;
            put(parts, 0, part);
        }

        void add(int fold, int part) {
            put(folds, foldsTold, fold);
            foldsTold++;
            put(parts, foldsTold, part);
        }

        int foldCount() {
            return foldsTold;
        }

        int foldsLeft() {
            return left;
        }

        int firstPartLeft() {
            return at(leftParts, 0);
        }

        int stepsTaken() {
            return steps;
        }

        /** The STRIP is REDUCED with one FOLD turned to the other kind (with none, if there is no such FOLD). */
        void reduce(int turned) {
            copy(parts, leftParts);
            copy(folds, leftFolds);
            put(leftFolds, turned, 1 - at(leftFolds, turned));
            left = foldsTold;
            steps = 0;
            while (steps < MOST_STRIP_FOLDS && reduceOnce()) {
                steps++;
            }
        }

        private boolean reduceOnce() {
            if (left == 0) {
                return false;
            }
            if (at(leftParts, 0) <= at(leftParts, 1)) {
                closeUp(0, 1);
                return true;
            }
            if (at(leftParts, left) <= at(leftParts, left - 1)) {
                left--;
                return true;
            }
            int place = firstPleat();
            if (place == NONE) {
                return false;
            }
            int between = at(leftParts, place + 1);
            // closing up brings the part behind the pleat to where the one ahead of it was
            put(leftParts, place + 2, at(leftParts, place) + at(leftParts, place + 2) - between);
            closeUp(place, 2);
            return true;
        }

        private int firstPleat() {
            for (int i = 0; i + 1 < left; i++) {
                int between = at(leftParts, i + 1);
                boolean notLonger = between <= at(leftParts, i) && between <= at(leftParts, i + 2);
                if (notLonger && at(leftFolds, i) != at(leftFolds, i + 1)) {
                    return i;
                }
            }
            return NONE;
        }

        private void closeUp(int place, int gone) {
            left -= gone;
            for (int i = place; i <= left; i++) {
                put(leftParts, i, at(leftParts, i + gone));
                put(leftFolds, i, at(leftFolds, i + gone));
            }
        }

        int deepestFold() {
            int best = NONE;
            int fewest = ABOVE_ALL;
            for (int i = 0; i < foldsTold; i++) {
                reduce(i);
                if (left < fewest) {
                    fewest = left;
                    best = i;
                }
            }
            return best;
        }
    }

    /** Reads the TAPE as a text, from left to right, up to its first FAULT. */
    private static final class Reader {
        private final int[] tape;
        private int length;
        private int place;
        private int fault;
        private int values;
        private Code code = new Code();
        private String words = LAW_WORDS;

        Reader(int[] tape) {
            this.tape = tape;
        }

        int readLaw(Law law, int bytes) {
            open(bytes);
            law.clear();
            code = law.program();
            words = LAW_WORDS;
            boolean softTold = false;
            boolean more = true;
            for (int n = 0; n <= MOST_CLAUSES && more; n++) {
                int begin = nextPlace();
                int sort = clauseWord(LAW_CLAUSES, n);
                if (sort == SOFT) {
                    if (softTold) {
                        fail(begin, TOO_MANY_CLAUSES);
                    }
                    softTold = true;
                    law.softFrom(number(1, MOST_TIGHT));
                } else {
                    int sumStart = code.stepCount();
                    sum();
                    int sumEnd = code.stepCount();
                    if (takesWord("if")) {
                        test(0);
                    }
                    law.add(sort, sumStart, sumEnd, code.stepCount());
                }
                more = takesByte(';');
            }
            return close();
        }

        int readDoing(Doing doing, int bytes) {
            open(bytes);
            doing.clear();
            boolean more = true;
            for (int n = 0; n <= MOST_CLAUSES && more; n++) {
                int sort = clauseWord(DOING_CLAUSES, n);
                if (sort == PRESS) {
                    int tight = number(1, MOST_TIGHT);
                    doing.add(sort, tight, takesWord("times") ? number(1, MOST_TIMES) : 1, UPRIGHT);
                } else if (sort == FOLD) {
                    int way = neededWord("upright level");
                    doing.add(sort, number(1, MOST_PLACE), 1, way);
                } else {
                    doing.add(sort, 0, 1, UPRIGHT);
                }
                more = takesByte(';');
            }
            return close();
        }

        int readRule(Rule rule, int bytes) {
            open(bytes);
            rule.clear();
            code = rule.program();
            words = RULE_WORDS;
            boolean more = true;
            for (int n = 0; n <= MOST_CLAUSES && more; n++) {
                int sort = clauseWord(RULE_CLAUSES, n);
                int testStart = code.stepCount();
                test(0);
                rule.add(sort, testStart, code.stepCount());
                more = takesByte(';');
            }
            return close();
        }

        int readStrip(Strip strip, int bytes) {
            open(bytes);
            strip.begin(number(1, MOST_PART_LENGTH));
            boolean more = true;
            for (int n = 0; n <= MOST_STRIP_FOLDS && more; n++) {
                int begin = nextPlace();
                int fold = takesByte('M') ? 0 : takesByte('V') ? 1 : NONE;
                more = fold != NONE;
                if (more && n == MOST_STRIP_FOLDS) {
                    fail(begin, TOO_MANY_CLAUSES);
                }
                if (more) {
                    strip.add(fold, number(1, MOST_PART_LENGTH));
                }
            }
            return close();
        }

        private void open(int bytes) {
            length = bytes;
            place = 0;
            fault = 0;
            values = 0;
        }

        /** The FAULT of the text, 0 without. */
        private int close() {
            if (nextPlace() < length) {
                fail(place, UNFIT);
            }
            return fault;
        }

        /** Only the first FAULT stays: the text is read from left to right, and of one place the least is asked first. */
        private void fail(int where, int kind) {
            if (fault == 0) {
                fault = 1 + 8 * where + kind;
            }
        }

        private int nextPlace() {
            while (place < length && place < tape.length && tape[place] == ' ') {
                place++;
            }
            return place;
        }

        private int clauseWord(String list, int clausesAhead) {
            int begin = nextPlace();
            int sort = neededWord(list);
            if (clausesAhead == MOST_CLAUSES) {
                fail(begin, TOO_MANY_CLAUSES);
            }
            return sort;
        }

        private int neededWord(String list) {
            int index = wordAmong(list);
            if (index == NONE) {
                fail(place, UNFIT);
            }
            return index;
        }

        private boolean takesWord(String word) {
            return wordAmong(word) != NONE;
        }

        /** Goes behind the WORD that stands next and says which of the list it is; stays ahead of any other. */
        private int wordAmong(String list) {
            int begin = nextPlace();
            int end = begin;
            while (end < length && within(at(tape, end), 'a', 'z')) {
                end++;
            }
            int index = 0;
            int same = 0;
            for (int i = 0; i <= list.length() && fault == 0 && end > begin; i++) {
                boolean over = i == list.length() || list.charAt(i) == ' ';
                if (over && same == end - begin) {
                    place = end;
                    return index;
                }
                if (over) {
                    index++;
                    same = 0;
                } else {
                    // a WORD that has gone wrong can't come right by what follows in it
                    boolean fits = same >= 0 && same < end - begin && at(tape, begin + same) == list.charAt(i);
                    same = fits ? same + 1 : NONE;
                }
            }
            return NONE;
        }

        private boolean takesByte(int sign) {
            boolean stands = fault == 0 && nextPlace() < length && at(tape, place) == sign;
            if (stands) {
                place++;
            }
            return stands;
        }

        private int number(int least, int most) {
            int begin = nextPlace();
            int value = 0;
            while (place < length && within(at(tape, place), '0', '9')) {
                if (place - begin < MOST_DIGITS) {
                    value = value * 10 + at(tape, place) - '0';
                }
                place++;
            }
            if (place == begin) {
                fail(begin, UNFIT);
            }
            if (place - begin > MOST_DIGITS || !within(value, least, most)) {
                fail(begin, BAD_NUMBER);
            }
            return value;
        }

        private void countValue(int where) {
            if (values == MOST_VALUES) {
                fail(where, TOO_MANY_VALUES);
            }
            values++;
        }

        private void value() {
            int begin = nextPlace();
            int word = wordAmong(words);
            if (word == NONE) {
                code.add(NUMBER, number(0, MOST_NUMBER));
            } else {
                code.add(WORD, word);
            }
            countValue(begin);
        }

        private void sum() {
            value();
            int waiting = NONE;
            boolean more = true;
            for (int n = 0; n < MOST_BYTES && more; n++) {
                int sign = termSign();
                if (sign == TIMES || sign == BY) {
                    value();
                    code.add(sign, 0);
                } else {
                    // + and - wait until the TERM behind them is whole
                    if (waiting != NONE) {
                        code.add(waiting, 0);
                    }
                    waiting = sign;
                    more = sign != NONE;
                    if (more) {
                        value();
                    }
                }
            }
        }

        private int termSign() {
            if (takesByte('+')) {
                return PLUS;
            }
            if (takesByte('-')) {
                return MINUS;
            }
            if (takesByte('*')) {
                return TIMES;
            }
            return takesByte('/') ? BY : NONE;
        }

        private void test(int depth) {
            fact(depth);
            boolean waiting = false;
            boolean more = true;
            for (int n = 0; n < MOST_BYTES && more; n++) {
                if (takesWord("and")) {
                    fact(depth);
                    code.add(AND, 0);
                } else {
                    // or waits until the PART behind it is whole
                    if (waiting) {
                        code.add(OR, 0);
                    }
                    waiting = takesWord("or");
                    more = waiting;
                    if (more) {
                        fact(depth);
                    }
                }
            }
        }

        private void fact(int depth) {
            int begin = nextPlace();
            boolean opens = takesByte('[');
            boolean turns = !opens && takesWord("not");
            if ((opens || turns) && depth >= MOST_DEEP) {
                fail(begin, TOO_DEEP);
            } else if (turns) {
                fact(depth + 1);
                code.add(NOT, 0);
            } else if (opens) {
                test(depth + 1);
                if (!takesByte(']')) {
                    fail(place, UNFIT);
                }
            } else {
                sum();
                int where = nextPlace();
                int sign = factSign();
                countValue(where);
                sum();
                code.add(sign, 0);
            }
        }

        private int factSign() {
            if (takesByte('=')) {
                return ALIKE;
            }
            boolean less = takesByte('<');
            if (!less && !takesByte('>')) {
                fail(place, UNFIT);
            }
            // the = of <= and >= stands close behind, without a blank
            boolean orAlike = fault == 0 && place < length && at(tape, place) == '=';
            if (orAlike) {
                place++;
            }
            if (less) {
                return orAlike ? LESS_OR_ALIKE : LESS;
            }
            return orAlike ? MORE_OR_ALIKE : MORE;
        }
    }

    /** One SHEET: its FACETS, four numbers each, and its RIDGES, seven numbers each, in two rows. */
    private static final class Sheet {
        private final int[] facetRow = new int[MOST_FACETS * FACET_PARTS];
        private final int[] ridgeRow = new int[MOST_RIDGES * RIDGE_PARTS];
        private final int[] foretoldRow = new int[MOST_ROUNDS + 1];
        private final long[] words = new long[WORDS];
        private Law law;
        private int wideTold;
        private int highTold;
        private int seed;
        private int wide;
        private int high;
        private int round;
        private int facets;
        private int ridges;
        private long x;

        Sheet(Law noLaw) {
            law = noLaw;
        }

        void begin(int newWide, int newHigh, Law newLaw, int newSeed) {
            wideTold = newWide;
            highTold = newHigh;
            law = newLaw;
            seed = newSeed;
            wide = newWide;
            high = newHigh;
            x = newSeed;
            round = 0;
            ridges = 0;
            facets = 0;
            addFacet(0, 0, wide, high);
        }

        void beginAfresh(Sheet other, int newSeed) {
            begin(other.wideTold, other.highTold, other.law, newSeed);
        }

        void becomeLike(Sheet other) {
            copy(other.facetRow, facetRow);
            copy(other.ridgeRow, ridgeRow);
            copy(other.foretoldRow, foretoldRow);
            law = other.law;
            wideTold = other.wideTold;
            highTold = other.highTold;
            seed = other.seed;
            wide = other.wide;
            high = other.high;
            round = other.round;
            facets = other.facets;
            ridges = other.ridges;
            x = other.x;
        }

        // ---- what there is

        int side(int way) {
            return way == UPRIGHT ? wide : high;
        }

        int rounds() {
            return round;
        }

        int facetCount() {
            return facets;
        }

        int ridgeCount() {
            return ridges;
        }

        int seedTold() {
            return seed;
        }

        int seedLeft() {
            return (int) x;
        }

        // these four do without at and put, to keep calls flat

        int facetPart(int facet, int part) {
            int place = facet * FACET_PARTS + part;
            return place >= 0 && place < facetRow.length ? facetRow[place] : 0;
        }

        int ridgePart(int ridge, int part) {
            int place = ridge * RIDGE_PARTS + part;
            return place >= 0 && place < ridgeRow.length ? ridgeRow[place] : 0;
        }

        private void putFacet(int facet, int part, int number) {
            int place = facet * FACET_PARTS + part;
            if (place >= 0 && place < facetRow.length) {
                facetRow[place] = number;
            }
        }

        private void putRidge(int ridge, int part, int number) {
            int place = ridge * RIDGE_PARTS + part;
            if (place >= 0 && place < ridgeRow.length) {
                ridgeRow[place] = number;
            }
        }

        private void addFacet(int left, int top, int facetWide, int facetHigh) {
            putFacet(facets, X, left);
            putFacet(facets, Y, top);
            putFacet(facets, WIDE, facetWide);
            putFacet(facets, HIGH, facetHigh);
            facets++;
        }

        private void addRidge(int way, int place, int from, int to, int kind) {
            putRidge(ridges, WAY, way);
            putRidge(ridges, PLACE, place);
            putRidge(ridges, FROM, from);
            putRidge(ridges, TO, to);
            putRidge(ridges, ROUND, round);
            putRidge(ridges, KIND, kind);
            putRidge(ridges, USED, 1);
            ridges++;
        }

        private int longOf(int facet) {
            return Math.max(facetPart(facet, WIDE), facetPart(facet, HIGH));
        }

        private int shortOf(int facet) {
            return Math.min(facetPart(facet, WIDE), facetPart(facet, HIGH));
        }

        private int wayOf(int facet) {
            return facetPart(facet, WIDE) >= facetPart(facet, HIGH) ? UPRIGHT : LEVEL;
        }

        private int areaOf(int facet) {
            return facetPart(facet, WIDE) * facetPart(facet, HIGH);
        }

        int edgeOf(int facet) {
            int left = facetPart(facet, X);
            int top = facetPart(facet, Y);
            int sides = left == 0 ? 1 : 0;
            sides += top == 0 ? 1 : 0;
            sides += left + facetPart(facet, WIDE) == wide ? 1 : 0;
            sides += top + facetPart(facet, HIGH) == high ? 1 : 0;
            return sides;
        }

        int greatestLong() {
            int greatest = 0;
            for (int f = 0; f < facets; f++) {
                greatest = Math.max(greatest, longOf(f));
            }
            return greatest;
        }

        int lengthOf(int ridge) {
            return ridgePart(ridge, TO) - ridgePart(ridge, FROM);
        }

        /** An end of a RIDGE, told by its part FROM or TO. */
        boolean endsAtEdge(int ridge, int end) {
            int farEdge = ridgePart(ridge, WAY) == UPRIGHT ? high : wide;
            int where = ridgePart(ridge, end);
            return where == 0 || where == farEdge;
        }

        boolean goesThroughEnd(int ridge, int other, int end) {
            int where = ridgePart(other, PLACE);
            return ridgePart(ridge, WAY) != ridgePart(other, WAY)
                && ridgePart(ridge, PLACE) == ridgePart(other, end)
                && ridgePart(ridge, FROM) <= where && where <= ridgePart(ridge, TO);
        }

        // ---- what is done to it

        private int drawn() {
            x = (x * 1103515245L + 12345L) % 2147483648L;
            return (int) (x / 65536);
        }

        private void fillWords(int facet, int tight, int beginning, int total) {
            put(words, 0, longOf(facet));
            put(words, 1, shortOf(facet));
            put(words, 2, areaOf(facet));
            put(words, 3, beginning);
            put(words, 4, tight);
            put(words, 5, edgeOf(facet));
            put(words, 6, wayOf(facet));
            put(words, 7, total);
        }

        int crush(int tight) {
            if (round >= MOST_ROUNDS) {
                return NONE;
            }
            round++;
            // what breaks in this pressing does not change its total
            int total = lengthOfRounds(0, MOST_ROUNDS);
            for (int r = 0; r < ridges; r++) {
                putRidge(r, USED, ridgePart(r, USED) + 1);
            }
            int there = facets;
            int broken = 0;
            int foretold = 0;
            for (int f = 0; f < there; f++) {
                int chance = drawn() % MOST_BREAKS;
                fillWords(f, tight, round, total);
                int told = law.tells(BREAKS, words, 0, MOST_BREAKS, 0);
                boolean canBreak = longOf(f) >= 2;
                // a FACET that breaks changes no other one: until its turn comes each is as it was ahead of the pressing
                foretold += canBreak ? told * shortOf(f) : 0;
                if (canBreak && chance < told && facets < MOST_FACETS && ridges < MOST_RIDGES) {
                    breakFacet(f);
                    broken++;
                }
            }
            put(foretoldRow, round, foretold);
            return broken;
        }

        private void breakFacet(int facet) {
            int farthest = longOf(facet) - 1;
            if (farthest < 1) {
                return;
            }
            int told = law.tells(AT, words, -MOST_AT, MOST_AT, NO_CLAUSE);
            int ahead = told == NO_CLAUSE
                ? drawn() % farthest + 1
                : (int) held(Math.floorDiv(told * (farthest + 1), 1000), 1, farthest);
            int way = wayOf(facet);
            int across = way == UPRIGHT ? Y : X;
            int from = facetPart(facet, across);
            addRidge(way, facetPart(facet, way) + ahead, from, from + shortOf(facet), PRESSED);
            cutFacet(facet, way, ahead);
        }

        /** Of an upright cut the parts X and WIDE are cut, of a level one Y and HIGH: way tells both. */
        private void cutFacet(int facet, int way, int ahead) {
            int added = facets;
            addFacet(facetPart(facet, X), facetPart(facet, Y), facetPart(facet, WIDE), facetPart(facet, HIGH));
            putFacet(added, X + way, facetPart(facet, X + way) + ahead);
            putFacet(added, WIDE + way, facetPart(facet, WIDE + way) - ahead);
            putFacet(facet, WIDE + way, ahead);
        }

        private boolean isCutBy(int facet, int way, int place) {
            int begin = facetPart(facet, X + way);
            return begin < place && place < begin + facetPart(facet, WIDE + way);
        }

        int crease(int way, int place) {
            int cuts = 0;
            for (int f = 0; f < facets; f++) {
                cuts += isCutBy(f, way, place) ? 1 : 0;
            }
            if (cuts == 0 || facets + cuts > MOST_FACETS || ridges >= MOST_RIDGES) {
                return NONE;
            }
            int there = facets;
            for (int f = 0; f < there; f++) {
                if (isCutBy(f, way, place)) {
                    cutFacet(f, way, place - facetPart(f, X + way));
                }
            }
            addRidge(way, place, 0, side(way == UPRIGHT ? LEVEL : UPRIGHT), FOLDED);
            return cuts;
        }

        void changeSides() {
            int wasWide = wide;
            wide = high;
            high = wasWide;
            for (int f = 0; f < facets; f++) {
                int left = facetPart(f, X);
                int facetWide = facetPart(f, WIDE);
                putFacet(f, X, facetPart(f, Y));
                putFacet(f, Y, left);
                putFacet(f, WIDE, facetPart(f, HIGH));
                putFacet(f, HIGH, facetWide);
            }
            for (int r = 0; r < ridges; r++) {
                putRidge(r, WAY, ridgePart(r, WAY) == UPRIGHT ? LEVEL : UPRIGHT);
            }
        }

        // ---- lengths by ROUNDS

        int lengthOfRounds(int from, int to) {
            int together = 0;
            for (int r = 0; r < ridges; r++) {
                together += within(ridgePart(r, ROUND), from, to) ? lengthOf(r) : 0;
            }
            return together;
        }

        int lengthOfAll() {
            return lengthOfRounds(0, MOST_ROUNDS);
        }

        private int pressedIn(int told) {
            int together = 0;
            for (int r = 0; r < ridges; r++) {
                boolean counts = ridgePart(r, ROUND) == told && ridgePart(r, KIND) == PRESSED;
                together += counts ? lengthOf(r) : 0;
            }
            return together;
        }

        int expectedBreaks(int tight, int total, boolean byShort) {
            int together = 0;
            for (int f = 0; f < facets; f++) {
                if (longOf(f) >= 2) {
                    fillWords(f, tight, round + 1, total);
                    together += law.tells(BREAKS, words, 0, MOST_BREAKS, 0) * (byShort ? shortOf(f) : 1);
                }
            }
            return together;
        }

        int foretoldOf(int told) {
            return at(foretoldRow, told);
        }

        int missOfRounds(int from, int to) {
            int together = 0;
            for (int r = from; r <= to; r++) {
                together += Math.abs(1000 * pressedIn(r) - foretoldOf(r));
            }
            return together;
        }

        int addsBehind(int lengthTold) {
            int best = 0;
            int nearest = ABOVE_ALL;
            for (int r = 0; r < round; r++) {
                int off = Math.abs(lengthOfRounds(0, r) - lengthTold);
                if (off < nearest) {
                    nearest = off;
                    best = r;
                }
            }
            return lengthOfRounds(best + 1, best + 1);
        }

        int curveHeight() {
            int together = 0;
            for (int r = 1; r <= round; r++) {
                together += lengthOfRounds(r, r) * r;
            }
            return round == 0 ? 0 : Math.floorDiv(together, round);
        }

        int offCurve() {
            int height = curveHeight();
            int together = 0;
            for (int r = 1; r <= round; r++) {
                together += Math.abs(lengthOfRounds(r, r) - Math.floorDiv(height, r));
            }
            return together;
        }

        int firstRoundNotBelow(int lengthTold) {
            for (int r = 0; r <= round; r++) {
                if (lengthOfRounds(0, r) >= lengthTold) {
                    return r;
                }
            }
            return NOT_THERE;
        }

        // ---- sizes

        /** The area that stands at a place (from 0 on), when all are laid out from the least to the greatest. */
        int areaOfRank(int rank) {
            for (int f = 0; f < facets; f++) {
                int less = 0;
                int same = 0;
                for (int g = 0; g < facets; g++) {
                    less += areaOf(g) < areaOf(f) ? 1 : 0;
                    same += areaOf(g) == areaOf(f) ? 1 : 0;
                }
                if (within(rank, less, less + same - 1)) {
                    return areaOf(f);
                }
            }
            return NONE;
        }

        int facetsOfClass(int k) {
            int many = 0;
            for (int f = 0; f < facets; f++) {
                many += areaOf(f) >> k == 1 ? 1 : 0;
            }
            return many;
        }

        int apartFrom(Sheet other) {
            int together = 0;
            for (int k = 0; k < SIZE_CLASSES; k++) {
                together += Math.abs(facetsOfClass(k) - other.facetsOfClass(k));
            }
            return together;
        }

        // ---- USED

        private boolean isSoft(int ridge) {
            return law.isSoft(ridgePart(ridge, USED));
        }

        int softRidges() {
            int many = 0;
            for (int r = 0; r < ridges; r++) {
                many += isSoft(r) ? 1 : 0;
            }
            return many;
        }

        int strengthAt(int tight) {
            long together = 0;
            for (int r = 0; r < ridges; r++) {
                int strength = lengthOf(r) * ridgePart(r, USED);
                together += isSoft(r) ? strength / 2 : strength;
            }
            return tight == 0 ? 0 : (int) (together * 100 / tight);
        }

        // ---- beside others

        int ridgesAlsoOf(Sheet other) {
            int many = 0;
            for (int r = 0; r < ridges; r++) {
                many += other.hasRidgeLike(this, r) ? 1 : 0;
            }
            return many;
        }

        private boolean hasRidgeLike(Sheet other, int ridge) {
            for (int r = 0; r < ridges; r++) {
                if (ridgePart(r, WAY) == other.ridgePart(ridge, WAY)
                    && ridgePart(r, PLACE) == other.ridgePart(ridge, PLACE)
                    && ridgePart(r, FROM) == other.ridgePart(ridge, FROM)
                    && ridgePart(r, TO) == other.ridgePart(ridge, TO)) {
                    return true;
                }
            }
            return false;
        }

        boolean areBeside(int facet, int other) {
            int left = facetPart(facet, X);
            int right = left + facetPart(facet, WIDE);
            int top = facetPart(facet, Y);
            int bottom = top + facetPart(facet, HIGH);
            int otherLeft = facetPart(other, X);
            int otherRight = otherLeft + facetPart(other, WIDE);
            int otherTop = facetPart(other, Y);
            int otherBottom = otherTop + facetPart(other, HIGH);
            boolean touchSideways = right == otherLeft || otherRight == left;
            boolean touchUpDown = bottom == otherTop || otherBottom == top;
            boolean shareRows = top < otherBottom && otherTop < bottom;
            boolean shareColumns = left < otherRight && otherLeft < right;
            return touchSideways && shareRows || touchUpDown && shareColumns;
        }
    }

    /** All SHEETS that there are; an IMAGE is one more of these. */
    private static final class Pile {
        private final Sheet[] sheets = new Sheet[MOST_SHEETS];
        private int many;
        private boolean made;

        Pile(Law noLaw) {
            for (int i = 0; i < MOST_SHEETS; i++) {
                sheets[i] = new Sheet(noLaw);
            }
        }

        int size() {
            return many;
        }

        boolean wasMade() {
            return made;
        }

        Sheet get(int sheet) {
            return within(sheet, 0, many - 1) && sheet < sheets.length ? sheets[sheet] : null;
        }

        int put(int wide, int high, Law law, int seed) {
            if (!within(many, 0, sheets.length - 1)) {
                return NONE;
            }
            sheets[many].begin(wide, high, law, seed);
            many++;
            return many - 1;
        }

        void becomeLike(Pile other) {
            for (int i = 0; i < other.many && i < other.sheets.length && i < sheets.length; i++) {
                sheets[i].becomeLike(other.sheets[i]);
            }
            many = other.many;
            made = true;
        }

        int facetsOfAll() {
            int together = 0;
            for (int i = 0; i < many && i < sheets.length; i++) {
                together += sheets[i].facetCount();
            }
            return together;
        }

        int ridgesOfAll() {
            int together = 0;
            for (int i = 0; i < many && i < sheets.length; i++) {
                together += sheets[i].ridgeCount();
            }
            return together;
        }
    }

    /** What a RULE lets one see of a SHEET. */
    private static final class Sight {
        private static final int UNSEEN = 0;
        private static final int SEEN = 1;

        private final int[] sights = new int[MOST_RIDGES];
        private final long[] words = new long[WORDS];
        private Sheet sheet;
        private int ridges;

        Sight(Sheet emptySheet) {
            sheet = emptySheet;
        }

        void look(Rule rule, Sheet told) {
            sheet = told;
            ridges = told.ridgeCount();
            for (int r = 0; r < ridges; r++) {
                fillWords(r);
                put(sights, r, rule.sees(words) ? SEEN : UNSEEN);
            }
        }

        private void fillWords(int ridge) {
            int ends = sheet.endsAtEdge(ridge, FROM) ? 1 : 0;
            ends += sheet.endsAtEdge(ridge, TO) ? 1 : 0;
            put(words, 0, sheet.lengthOf(ridge));
            put(words, 1, sheet.ridgePart(ridge, ROUND));
            put(words, 2, sheet.ridgePart(ridge, USED));
            put(words, 3, sheet.ridgePart(ridge, KIND));
            put(words, 4, sheet.ridgePart(ridge, WAY));
            put(words, 5, sheet.ridgePart(ridge, PLACE));
            put(words, 6, ends);
            put(words, 7, sheet.rounds());
        }

        private boolean isSeen(int ridge) {
            return at(sights, ridge) == SEEN;
        }

        int seenRidges() {
            int many = 0;
            for (int r = 0; r < ridges; r++) {
                many += isSeen(r) ? 1 : 0;
            }
            return many;
        }

        int seenLength() {
            int together = 0;
            for (int r = 0; r < ridges; r++) {
                together += isSeen(r) ? sheet.lengthOf(r) : 0;
            }
            return together;
        }

        private boolean isLoose(int ridge, int end) {
            if (!isSeen(ridge) || sheet.endsAtEdge(ridge, end)) {
                return false;
            }
            for (int r = 0; r < ridges; r++) {
                if (isSeen(r) && sheet.goesThroughEnd(r, ridge, end)) {
                    return false;
                }
            }
            return true;
        }

        int looseEnds() {
            int many = 0;
            for (int r = 0; r < ridges; r++) {
                many += isLoose(r, FROM) ? 1 : 0;
                many += isLoose(r, TO) ? 1 : 0;
            }
            return many;
        }

        private boolean putsRight(int ridge) {
            if (isSeen(ridge)) {
                return false;
            }
            for (int r = 0; r < ridges; r++) {
                // asked in this order, as few RIDGES go through an end, but to find it loose all are asked
                boolean from = sheet.goesThroughEnd(ridge, r, FROM) && isLoose(r, FROM);
                if (from || sheet.goesThroughEnd(ridge, r, TO) && isLoose(r, TO)) {
                    return true;
                }
            }
            return false;
        }

        int rightRidges() {
            int many = 0;
            for (int r = 0; r < ridges; r++) {
                many += putsRight(r) ? 1 : 0;
            }
            return many;
        }

        int firstRight() {
            for (int r = 0; r < ridges; r++) {
                if (putsRight(r)) {
                    return r;
                }
            }
            return NOT_THERE;
        }
    }

    /** The net of all RIDGES of a SHEET, point by point, and the CORNERS in it. */
    private static final class Corners {
        private static final int ROW = MOST_SIDE + 1;
        private static final int UP = 1;
        private static final int DOWN = 2;
        private static final int LEFT = 4;
        private static final int RIGHT = 8;
        private static final int END = 16;

        // all 0 between two calls: what is drawn is wiped out point by point while the CORNERS are counted
        private final int[] points = new int[ROW * ROW];
        private final int[] counts = new int[5];
        private int many;
        private boolean flat;

        int all() {
            return many;
        }

        int withArms(int arms) {
            return at(counts, arms);
        }

        boolean liesFlat() {
            return flat;
        }

        void draw(Sheet sheet) {
            many = 0;
            flat = true;
            for (int i = 0; i < counts.length; i++) {
                counts[i] = 0;
            }
            for (int r = 0; r < sheet.ridgeCount(); r++) {
                drawRidge(sheet, r);
            }
            for (int r = 0; r < sheet.ridgeCount(); r++) {
                wipeRidge(sheet, r);
            }
        }

        private int pointOf(Sheet sheet, int ridge, int along) {
            int place = sheet.ridgePart(ridge, PLACE);
            return sheet.ridgePart(ridge, WAY) == UPRIGHT ? along * ROW + place : place * ROW + along;
        }

        private void drawRidge(Sheet sheet, int ridge) {
            boolean upright = sheet.ridgePart(ridge, WAY) == UPRIGHT;
            int from = sheet.ridgePart(ridge, FROM);
            int to = sheet.ridgePart(ridge, TO);
            for (int i = from; i <= to; i++) {
                int marks = i == from || i == to ? END : 0;
                marks |= i == from ? 0 : upright ? UP : LEFT;
                marks |= i == to ? 0 : upright ? DOWN : RIGHT;
                int point = pointOf(sheet, ridge, i);
                put(points, point, at(points, point) | marks);
            }
        }

        private void wipeRidge(Sheet sheet, int ridge) {
            int far = sheet.ridgePart(ridge, WAY) == UPRIGHT ? sheet.side(LEVEL) : sheet.side(UPRIGHT);
            int to = sheet.ridgePart(ridge, TO);
            for (int i = sheet.ridgePart(ridge, FROM); i <= to; i++) {
                int point = pointOf(sheet, ridge, i);
                if (i > 0 && i < far) {
                    countPoint(at(points, point));
                }
                put(points, point, 0);
            }
        }

        private void countPoint(int marks) {
            boolean crosses = (marks & (UP | DOWN)) != 0 && (marks & (LEFT | RIGHT)) != 0;
            if ((marks & END) == 0 && !crosses) {
                return;
            }
            int arms = marks & (UP | DOWN | LEFT | RIGHT);
            int armCount = Integer.bitCount(arms);
            many++;
            put(counts, armCount, at(counts, armCount) + 1);
            flat = flat && (armCount == 4 || arms == (UP | DOWN) || arms == (LEFT | RIGHT));
        }
    }

    /** Which FACETS of a SHEET are BESIDE one another, and ways over them. */
    private static final class Neighbours {
        // the FACETS are the fields of a map: of n such fields fewer than 3n pairs lie beside one another
        private static final int MOST_NEIGHBOURS = 6 * MOST_FACETS;

        private final int[] starts = new int[MOST_FACETS + 1];
        private final int[] others = new int[MOST_NEIGHBOURS];
        private final int[] distances = new int[MOST_FACETS];
        private final int[] queue = new int[MOST_FACETS];
        private int facets;

        void find(Sheet sheet) {
            facets = sheet.facetCount();
            int many = 0;
            for (int f = 0; f < facets; f++) {
                put(starts, f, many);
                for (int g = 0; g < facets; g++) {
                    if (g != f && sheet.areBeside(f, g)) {
                        put(others, many, g);
                        many++;
                    }
                }
            }
            put(starts, facets, many);
        }

        int countOf(int facet) {
            return at(starts, facet + 1) - at(starts, facet);
        }

        int richest() {
            int best = 0;
            for (int f = 1; f < facets; f++) {
                if (countOf(f) > countOf(best)) {
                    best = f;
                }
            }
            return best;
        }

        /** Finds the STEPS to every FACET; answers those to the farthest one. */
        int walkFrom(int facet) {
            for (int f = 0; f < facets; f++) {
                put(distances, f, NONE);
            }
            put(distances, facet, 0);
            put(queue, 0, facet);
            int reached = 1;
            int farthest = 0;
            for (int i = 0; i < reached && i < MOST_FACETS; i++) {
                int here = at(queue, i);
                farthest = at(distances, here);
                for (int n = at(starts, here); n < at(starts, here + 1); n++) {
                    int next = at(others, n);
                    if (at(distances, next) == NONE) {
                        put(distances, next, farthest + 1);
                        put(queue, reached, next);
                        reached++;
                    }
                }
            }
            return farthest;
        }

        int stepsTo(int facet) {
            return at(distances, facet);
        }

        int middle() {
            int best = 0;
            int nearest = ABOVE_ALL;
            for (int f = 0; f < facets; f++) {
                int farthest = walkFrom(f);
                if (farthest < nearest) {
                    nearest = farthest;
                    best = f;
                }
            }
            return best;
        }
    }
}
