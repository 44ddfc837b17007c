import java.util.function.Supplier;

/** Promises 1 and 5 to 12 and the Terms of SHEETS, FACETS and RIDGES at their limits. */
final class SheetBoundaries extends Checks {
    private static final String BIG = "65536*65536*65536*32768";

    static void run() {
        newObject();
        newSheets();
        sixSheets();
        longAndShort();
        ways();
        edges();
        draws();
        drawnPlaces();
        drawsOfAll();
        tellingClauses();
        heldBreaks();
        smallFacets();
        roomForFacets();
        toldPlaces();
        brokenFacets();
        usedRidges();
        totals();
        wordsOfLaws();
        pressings();
        sixtyRounds();
        foldings();
        foldsThroughSome();
        roomForFolds();
        turns();
        doings();
        lastCall();
    }

    private static CrumpledSheet halving(int wide, int high) {
        return with(HALVING, wide, high, 0);
    }

    /** How many FACETS of a new SHEET 8 by 4 break. */
    private static int broken(String law, int seed) {
        return with(law, 8, 4, seed).press(0, 1);
    }

    /** Where a SHEET breaks at its first pressing. */
    private static int placeOf(String law, int wide, int high, int seed) {
        CrumpledSheet x = with(law, wide, high, seed);
        x.press(0, 1);
        return x.ridge(0, 0, 1);
    }

    private static int likely(String breaks) {
        return with("breaks " + breaks, 8, 4, 0).expected(0, 1, 1);
    }

    // ==== new ones

    private static void newObject() {
        sentence(1, "NONE = -1");
        due("NONE", CrumpledSheet.NONE, -1);
        sentence(1, "No SHEETS, no texts");
        CrumpledSheet x = new CrumpledSheet();
        dueRow("count", x::count, 0, 0, 0, 0, 0, 0, 0, 0);
        int[] none = {x.sheet(2, 2, 0, 0), x.press(0, 1), x.fold(0, 0, 1), x.done(0, 0), x.facet(0, 0, 0), x.ridge(0, 0, 0),
            x.of(0, 0), x.length(0, 0), x.adds(0, 0), x.expected(0, 1, 0), x.foretold(0, 1), x.miss(0, 1, 1), x.guess(0, 1),
            x.curve(0, 0), x.sizes(0, 0), x.classes(0, 0), x.apart(0, 1), x.likest(0), x.seen(0, 0, 0), x.right(0, 0, 0),
            x.often(0, 0, 0), x.corners(0, 0), x.flat(0), x.strength(0, 1), x.beside(0, 0), x.most(0), x.steps(0, 0, 0),
            x.heart(0, 0), x.after(0, 0, 0), x.alike(0, 0), x.which(0), x.runs(0, 0, 0, 1, 0), x.until(0, 1, 1), x.back(0)};
        for (int i = 0; i < none.length; i++) due("call " + i + " of a new object", none[i], NONE);
        due("turn", x.turn(0), false);
        due("strip", x.strip(0, 0), NOT_THERE);
        due("text", x.text(LAW), -3);
        due("end", x.end(0), 0);
        due("halves", x.halves(1, 1), 0);
        due("image", x.image(0), 0);
    }

    private static void newSheets() {
        sentence(5, "wide, high (2 to 200)");
        limits("wide", 2, 200, wide -> text("breaks 1").sheet(wide, 4, 0, 0));
        limits("high", 2, 200, high -> text("breaks 1").sheet(4, high, 0, 0));
        sentence(5, "a LAW");
        limits("law", 0, 0, law -> text("breaks 1").sheet(4, 4, law, 0));
        due("no LAW", new CrumpledSheet().sheet(4, 4, 0, 0), NONE);
        sentence(5, "a seed x (0 to 2147483647)");
        limits("seed", 0, MAX, seed -> text("breaks 1").sheet(4, 4, 0, seed));
        sentence(5, "NONE: there are 6, or something is not as told");
        int[][] bad = {{1, 4, 0, 0}, {201, 4, 0, 0}, {4, 1, 0, 0}, {4, 201, 0, 0}, {4, 4, 1, 0}, {4, 4, -1, 0}, {4, 4, 0, -1}};
        for (int[] b : bad) {
            refused("such a SHEET", NONE, () -> with("breaks 1", 9, 9, 9), x -> x.sheet(b[0], b[1], b[2], b[3]));
        }
        sentence(5, "at first one, 0 at 0, 0, as the SHEET");
        for (int[] sides : new int[][] {{2, 2}, {200, 200}, {2, 200}, {200, 2}, {7, 5}}) {
            CrumpledSheet x = still(sides[0], sides[1]);
            facet(x, 0, 0, 0, sides[0], sides[1], 4, NONE);
            due("one FACET", x.facet(0, 1, 0), NONE);
            due("no RIDGE", x.ridge(0, 0, 0), NONE);
            dueRow("of", i -> x.of(0, i), sides[0], sides[1], 0, 1, 0, 0, 0, NONE);
        }
    }

    private static CrumpledSheet text(String law) {
        CrumpledSheet x = new CrumpledSheet();
        text(x, LAW, law);
        return x;
    }

    private static void sixSheets() {
        sentence(5, "SHEETS 0 to 5");
        CrumpledSheet x = text("breaks 1");
        for (int i = 0; i < 6; i++) {
            due("no SHEET " + i, x.of(i, 0), NONE);
            due("SHEET " + i, x.sheet(10 + i, 20 + i, 0, i), i);
        }
        dueRow("wide", i -> x.of(i, 0), 10, 11, 12, 13, 14, 15, NONE);
        due("a seventh", x.sheet(4, 4, 0, 0), NONE);
        due("six", x.count(0), 6);
        sentence(5, "NONE: there are 6, or something is not as told");
        refused("a seventh", NONE, () -> {
            CrumpledSheet six = text("breaks 1");
            for (int i = 0; i < 6; i++) six.sheet(2 + i, 4, 0, i);
            return six;
        }, six -> six.sheet(4, 4, 0, 0));
    }

    // ==== FACETS

    private static void longAndShort() {
        sentence(6, "long: the greater of its sides, short: the other one");
        int[][] sides = {{5, 4}, {4, 5}, {4, 4}, {2, 200}, {200, 2}, {2, 2}, {200, 199}};
        for (int[] s : sides) {
            CrumpledSheet x = with("breaks 4*long+short", s[0], s[1], 0);
            due(s[0] + " by " + s[1], x.expected(0, 1, 1), 4 * Math.max(s[0], s[1]) + Math.min(s[0], s[1]));
        }
    }

    private static void ways() {
        sentence(6, "way of a FACET: 0, if wide is long (alike, too), else 1");
        int[][] sides = {{5, 4, 0}, {4, 4, 0}, {4, 5, 1}, {2, 2, 0}, {2, 3, 1}, {200, 200, 0}, {199, 200, 1}, {200, 199, 0}};
        for (int[] s : sides) {
            CrumpledSheet x = with("breaks 1000*way+1000*way;at 500", s[0], s[1], 0);
            due("way", x.expected(0, 1, 1), 1000 * s[2]);
            CrumpledSheet y = halving(s[0], s[1]);
            y.press(0, 1);
            due("way of its RIDGE", y.ridge(0, 0, 0), s[2]);
            int shortSide = Math.min(s[0], s[1]);
            due("as long as short", y.ridge(0, 0, 3), shortSide);
        }
    }

    private static void edges() {
        sentence(10, "edge: how many of its sides lie at the SHEET's edge");
        CrumpledSheet x = with("breaks 100*edge", 3, 3, 0);
        due("all four", x.facet(0, 0, 4), 4);
        due("the LAW's word", x.expected(0, 1, 1), 400);
        x.fold(0, 0, 1);
        dueRow("three", f -> x.facet(0, f, 4), 3, 3);
        x.fold(0, 0, 2);
        dueRow("two across", f -> x.facet(0, f, 4), 3, 2, 3);
        x.fold(0, 1, 1);
        dueRow("by a level fold", f -> x.facet(0, f, 4), 2, 1, 2, 2, 1, 2);
        x.fold(0, 1, 2);
        dueRow("none in the middle", f -> x.facet(0, f, 4), 2, 1, 2, 1, 0, 1, 2, 1, 2);
        CrumpledSheet y = with("breaks 100*edge", 5, 9, 0);
        y.fold(0, 1, 4);
        y.turn(0);
        dueRow("turned", f -> y.facet(0, f, 4), 3, 3);
        due("the LAW's word", y.expected(0, 1, 1), 600);
    }

    // ==== DRAWS

    private static void draws() {
        sentence(6, "x becomes x * 1103515245 + 12345, of 2147483648 the rest; it is x / 65536");
        for (int draw : new int[] {0, 1, 500, 999, 1000, 1001, 1999, 31999, 32000, 32766, 32767}) {
            int rest = draw % 1000;
            for (long x : new long[] {draw * 65536L, draw * 65536L + 65535}) {
                due("DRAW " + draw + " is not below", broken("breaks " + rest, seedAhead(x)), 0);
                due("DRAW " + draw + " is below", broken("breaks " + (rest + 1), seedAhead(x)), 1);
            }
        }
        for (int seed : new int[] {0, 1, 2, 65535, 65536, 1103515245, MAX - 1, MAX}) {
            int rest = (int) (next(seed) / 65536) % 1000;
            due("seed " + seed + " not below", broken("breaks " + rest, seed), 0);
            due("seed " + seed + " below", broken("breaks " + (rest + 1), seed), 1);
        }
        sentence(6, "if it mod 1000 is below what the LAW's breaks tells");
        due("999 below 999", broken("breaks 999", seedOfDraw(999)), 0);
        due("999 below 1000", broken("breaks 1000", seedOfDraw(999)), 1);
        due("0 below 0", broken("breaks 0", seedOfDraw(0)), 0);
        due("0 below 1", broken("breaks 1", seedOfDraw(1000)), 1);
    }

    private static void drawnPlaces() {
        sentence(6, "without such a CLAUSE a DRAW mod (long - 1), and 1");
        int[][] places = {{2, 0, 1}, {2, 32767, 1}, {3, 0, 1}, {3, 1, 2}, {3, 2, 1}, {8, 0, 1}, {8, 6, 7}, {8, 7, 1},
            {200, 0, 1}, {200, 198, 199}, {200, 199, 1}, {200, 32767, 132}};
        for (int[] p : places) {
            int seed = seedOfSecondDraw(p[1]);
            due("upright, long " + p[0] + " DRAW " + p[1], placeOf("breaks 1000", p[0], 2, seed), p[2]);
            due("no at that holds", placeOf("breaks 1000;at 1 if 1=2", p[0], 2, seed), p[2]);
            due("level, long " + p[0] + " DRAW " + p[1], placeOf("breaks 1000", 2, Math.max(p[0], 3), seed), p[0] == 2 ? p[1] % 2 + 1 : p[2]);
        }
    }

    /** FACETS 1 by 1, 19 by 1, 1 by 2 and 19 by 2. */
    private static CrumpledSheet four(String law, int seed) {
        CrumpledSheet x = with(law, 20, 3, seed);
        x.fold(0, 0, 1);
        x.fold(0, 1, 1);
        return x;
    }

    private static void drawsOfAll() {
        sentence(6, "Then each FACET that there is by now, by its number: a DRAW");
        due("FACET 0 has the first", four("breaks 500 if area=1", seedOfDraw(0)).press(0, 1), 0);
        due("FACET 1 has the second", four("breaks 500 if area=19", seedOfSecondDraw(500)).press(0, 1), 0);
        due("FACET 1 has the second", four("breaks 501 if area=19", seedOfSecondDraw(500)).press(0, 1), 1);
        int third = seedAhead(seedOfSecondDraw(500));
        due("FACET 2 has the third", four("breaks 500 if area=2", third).press(0, 1), 0);
        due("FACET 2 has the third", four("breaks 501 if area=2", third).press(0, 1), 1);
        int fourth = seedAhead(third);
        due("FACET 3 has the fourth", four("breaks 500 if area=38", fourth).press(0, 1), 0);
        due("FACET 3 has the fourth", four("breaks 501 if area=38", fourth).press(0, 1), 1);
        due("behind the place's DRAW the fifth", four("breaks 500 if area=38;breaks 1000 if area=2", seedAhead(fourth)).press(0, 1), 1);
        due("behind the place's DRAW the fifth", four("breaks 501 if area=38;breaks 1000 if area=2", seedAhead(fourth)).press(0, 1), 2);
        due("a told place has none", four("breaks 501 if area=38;breaks 1000 if area=2;at 5", fourth).press(0, 1), 2);
        due("a told place has none", four("breaks 500 if area=38;breaks 1000 if area=2;at 5", fourth).press(0, 1), 1);
        fullSheetsDraw();
        CrumpledSheet x = halving(8, 4);
        due("those that come do not break at once", x.press(0, 1), 1);
        due("they do in the next ROUND", x.press(0, 1), 2);
    }

    /** In its eighth ROUND such a SHEET comes to 200 FACETS: of the 128 that there are 72 break, but all are drawn for. */
    private static void fullSheetsDraw() {
        for (int seed : new int[] {3, 4, seedOfDraw(0), seedOfDraw(999)}) {
            CrumpledSheet x = with("breaks 500 if round=1;breaks 1000;at 500", 200, 200, 0);
            text(x, DOING, "press 1 times 8");
            long next = seed;
            int broken = 0;
            for (int n = 1; n <= 10; n++) {
                next = next(next);
                boolean breaksAtOnce = next / 65536 % 1000 < 500;
                int drawsMore = breaksAtOnce ? 2 + 4 + 8 + 16 + 32 + 64 + 128 : 1 + 2 + 4 + 8 + 16 + 32 + 64;
                for (int i = 0; i < drawsMore; i++) next = next(next);
                if (breaksAtOnce) broken++;
                due("of " + n + " from " + seed, x.runs(0, 0, seed, n, 4401), broken);
            }
        }
    }

    // ==== what a LAW tells

    private static void tellingClauses() {
        sentence(6, "the SUM of the first such CLAUSE without a TEST, or whose TEST holds, 0 without");
        String[] laws = {"at 5", "soft 5", "breaks 5 if 1=2", "breaks 5;breaks 6", "breaks 5 if 1=1;breaks 6", "breaks 5 if 1=2;breaks 6",
            "breaks 5 if 1=2;breaks 6 if 1=1;breaks 7", "at 9;breaks 6;at 8", "breaks 0;breaks 6", "at 7 if 1=1;soft 3;breaks 5 if 1=2"};
        int[] want = {0, 0, 0, 5, 5, 6, 6, 6, 0, 0};
        for (int i = 0; i < laws.length; i++) due(laws[i], with(laws[i], 8, 4, 0).expected(0, 1, 1), want[i]);
        int seed = seedOfSecondDraw(5);
        due("the first at", placeOf("breaks 1000;at 250;at 500", 8, 4, seed), 2);
        due("the first at whose TEST holds", placeOf("breaks 1000;at 250 if 1=2;at 375 if 1=1;at 500", 8, 4, seed), 3);
        due("an at ahead of breaks", placeOf("at 250 if 1=2;at 500;breaks 1000", 8, 4, seed), 4);
        due("without an at", placeOf("breaks 1000", 8, 4, seed), 6);
    }

    private static void heldBreaks() {
        sentence(6, "0 without; held to 0 to 1000");
        String[] sums = {"0", "1", "999", "1000", "1001", "99999", "0-1", "0-99999", "65536*32768", "65536*32768-1", "65536*65536",
            "65536*65536+5", "0-65536*65536+5", BIG, BIG + "-1", "65536*65536*65536*65536+7"};
        int[] want = {0, 1, 999, 1000, 1000, 1000, 0, 0, 1000, 1000, 1000, 1000, 0, 0, 1000, 7};
        for (int i = 0; i < sums.length; i++) due(sums[i], likely(sums[i]), want[i]);
        due("1001 breaks as 1000", broken("breaks 1001", seedOfDraw(999)), 1);
        due("below 0 breaks as 0", broken("breaks 0-1", seedOfDraw(0)), 0);
        due("the least of 64 bits", broken("breaks " + BIG, seedOfDraw(0)), 0);
        due("the most of 64 bits", broken("breaks " + BIG + "-1", seedOfDraw(999)), 1);
        due("past an int", broken("breaks 65536*32768", seedOfDraw(999)), 1);
        due("past an int's bits", broken("breaks 65536*65536", seedOfDraw(999)), 1);
    }

    private static void smallFacets() {
        sentence(6, "its long is 2 or more");
        CrumpledSheet x = halving(2, 2);
        due("2 by 2", x.press(0, 1), 1);
        due("1 by 2", x.press(0, 1), 2);
        due("1 by 1", x.press(0, 1), 0);
        due("four are left", x.of(0, 3), 4);
        CrumpledSheet y = halving(2, 2);
        y.fold(0, 0, 1);
        due("short 1, long 2", y.press(0, 1), 2);
        dueRow("cut level", i -> y.ridge(0, i + 1, 0), 1, 1, NONE);
        CrumpledSheet z = with("breaks 1000", 2, 2, 0);
        press(z, 0, 1, 3);
        due("so by DRAWS", z.of(0, 3), 4);
    }

    private static CrumpledSheet rows(int many) {
        CrumpledSheet x = halving(200, 200);
        for (int i = 1; i < many; i++) x.fold(0, 1, i);
        return x;
    }

    private static void roomForFacets() {
        sentence(6, "FACETS of a SHEET, 200 at most");
        int[][] rows = {{197, 3}, {198, 2}, {199, 1}, {200, 0}};
        for (int[] r : rows) {
            CrumpledSheet x = rows(r[0]);
            due("FACETS ahead", x.of(0, 3), r[0]);
            due("of " + r[0] + " there break", x.press(0, 1), r[1]);
            due("FACETS", x.of(0, 3), 200);
            due("RIDGES", x.of(0, 4), 199);
            due("the last FACET's place", x.facet(0, 199, 1), r[1] == 0 ? 199 : r[1] - 1);
            due("no FACET 200", x.facet(0, 200, 0), NONE);
            due("the last RIDGE", x.ridge(0, 198, 4), r[1] == 0 ? 0 : 1);
            due("no RIDGE 199", x.ridge(0, 199, 0), NONE);
            due("no more room", x.press(0, 1), 0);
            due("a ROUND nevertheless", x.of(0, 2), 2);
            due("used nevertheless", x.ridge(0, 0, 6), 3);
        }
        sentence(6, "RIDGES, 400 at most");
        // each RIDGE brings a FACET at least, so that FACETS fill up first: no more than 199 RIDGES can ever come
        due("RIDGES of 200 FACETS", rows(200).of(0, 4), 199);
        due("none is pressed", rows(200).press(0, 1), 0);
        due("none is folded", rows(200).fold(0, 0, 1), NONE);
        sentence(6, "and there is room for a FACET and a RIDGE, it BREAKS");
        CrumpledSheet first = rows(199);
        first.press(0, 1);
        facet(first, 0, 0, 0, 100, 1, 2);
        facet(first, 199, 100, 0, 100, 1, 2);
        facet(first, 1, 0, 1, 200, 1, 2);
        CrumpledSheet full = rows(200);
        full.press(0, 1);
        full.press(0, 1);
        due("as it was", full.facet(0, 199, 2), 200);
        due("in all", full.count(5), 200);
        due("in all", full.count(6), 199);
    }

    private static void toldPlaces() {
        sentence(6, "held to -1000000 to 1000000) in thousandths of long, downwards, held to 1 to long - 1");
        String[] ends = {"0-1", "0-1000*1000", "0-1000*1000-1", "0-65536*32768", "0-65536*65536", BIG, "0"};
        for (String at : ends) {
            due("at " + at + " of 8", placeOf("breaks 1000;at " + at, 8, 4, 3), 1);
            due("at " + at + " of 200", placeOf("breaks 1000;at " + at, 4, 200, 3), 1);
        }
        String[] far = {"1000", "1001", "99999", "1000*1000-1", "1000*1000", "1000*1000+1", "65536*32768-1", "65536*32768", "65536*65536",
            "65536*65536+1", BIG + "-1"};
        for (String at : far) {
            due("at " + at + " of 8", placeOf("breaks 1000;at " + at, 8, 4, 3), 7);
            due("at " + at + " of 200", placeOf("breaks 1000;at " + at, 4, 200, 3), 199);
        }
        int[][] places = {{8, 1, 1}, {8, 124, 1}, {8, 125, 1}, {8, 249, 1}, {8, 250, 2}, {8, 374, 2}, {8, 375, 3}, {8, 874, 6}, {8, 875, 7},
            {8, 999, 7}, {2, 0, 1}, {2, 499, 1}, {2, 500, 1}, {2, 999, 1}, {2, 1000, 1}, {3, 333, 1}, {3, 666, 1}, {3, 667, 2}, {3, 1000, 2},
            {200, 5, 1}, {200, 9, 1}, {200, 10, 2}, {200, 994, 198}, {200, 995, 199}, {200, 999, 199}};
        for (int[] p : places) {
            due("at " + p[1] + " of " + p[0], placeOf("breaks 1000;at " + p[1], p[0], 2, 3), p[2]);
            if (p[0] > 2) due("at " + p[1] + " of " + p[0], placeOf("breaks 1000;at " + p[1], 2, p[0], 3), p[2]);
        }
    }

    private static void brokenFacets() {
        sentence(6, "The FACET keeps what is ahead of p, a new one, behind all, has the rest; a RIDGE comes there (upright if way is 0), "
            + "as long as short, USED 1");
        CrumpledSheet x = with("breaks 1000;at 999", 200, 200, 0);
        x.press(0, 1);
        facet(x, 0, 0, 0, 199, 200, 3);
        facet(x, 1, 199, 0, 1, 200, 3);
        ridge(x, 0, 0, 199, 0, 200, 1, 0, 1, NONE);
        x.press(0, 1);
        facet(x, 0, 0, 0, 199, 199, 2);
        facet(x, 2, 0, 199, 199, 1, 2);
        ridge(x, 1, 1, 199, 0, 199, 2, 0, 1);
        facet(x, 3, 199, 199, 1, 1, 2);
        ridge(x, 2, 1, 199, 199, 200, 2, 0, 1);
        CrumpledSheet y = with("breaks 1000;at 1", 2, 200, 0);
        y.press(0, 1);
        facet(y, 0, 0, 0, 2, 1, 3);
        facet(y, 1, 0, 1, 2, 199, 3);
        ridge(y, 0, 1, 1, 0, 2, 1, 0, 1);
    }

    private static void usedRidges() {
        sentence(6, "Each RIDGE that there is is USED once more");
        CrumpledSheet x = halving(8, 4);
        x.fold(0, 1, 1);
        due("a new fold", x.ridge(0, 0, 6), 1);
        x.press(0, 1);
        due("the fold", x.ridge(0, 0, 6), 2);
        dueRow("new ones of this ROUND", i -> x.ridge(0, i + 1, 6), 1, 1, NONE);
        x.fold(0, 0, 1);
        due("a fold uses none", x.ridge(0, 0, 6), 2);
        x.press(0, 1);
        dueRow("all of them", i -> x.ridge(0, i, 6), 3, 2, 2, 2, 1);
        press(x, 0, 1, 58);
        due("at most", x.ridge(0, 0, 6), 61);
        due("refused", x.press(0, 1), NONE);
        due("no more", x.ridge(0, 0, 6), 61);
    }

    private static void totals() {
        sentence(6, "total: what all RIDGES are long together");
        CrumpledSheet x = with("breaks 1000 if total=0;at 500", 8, 4, 0);
        due("none at first", x.press(0, 1), 1);
        due("4 then", x.press(0, 1), 0);
        CrumpledSheet y = with("breaks 1000 if total<=8;at 500", 8, 4, 0);
        y.fold(0, 1, 2);
        due("a fold counts", y.expected(0, 1, 1), 2000);
        due("what breaks in a pressing does not count in it", y.press(0, 1), 2);
        due("but in the next one", y.press(0, 1), 0);
    }

    private static void wordsOfLaws() {
        sentence(6, "long, short, area, round (the one that begins), tight, edge, way, total");
        String[] words = {"long", "short", "area", "round", "tight", "edge", "way", "total"};
        int[] least = {2, 2, 4, 1, 1, 4, 0, 0};
        int[] most = {200, 200, 40000, 60, 99, 4, 0, 0};
        for (int i = 0; i < words.length; i++) {
            due(words[i] + " at the least", with("breaks 5 if " + words[i] + "=" + least[i], 2, 2, 0).expected(0, 1, 1), 5);
            CrumpledSheet x = with("breaks 0 if round<60;breaks 1000 if " + words[i] + "=" + most[i], 200, 200, 0);
            press(x, 0, 1, 59);
            due(words[i] + " at the most", x.expected(0, 99, 1), 1000);
            due(words[i] + " at the most", x.press(0, 99), 1);
        }
        String[] same = {"long=8", "short=4", "area=32", "round=1", "tight=7", "edge=4", "way=0", "total=0"};
        for (String test : same) {
            CrumpledSheet x = with("at 250 if not " + test + ";breaks 1000 if " + test + ";at 750 if " + test, 8, 4, 0);
            x.press(0, 7);
            due("both CLAUSES, " + test, x.ridge(0, 0, 1), 6);
        }
        String[] sums = {"long*100", "short*200", "area*25", "round*800", "tight*100+100", "edge*200", "way*9+800", "total*9+800"};
        for (String at : sums) {
            CrumpledSheet x = with("breaks 1000;at " + at, 8, 4, 0);
            x.press(0, 7);
            due("at " + at, x.ridge(0, 0, 1), 6);
        }
        CrumpledSheet later = with("breaks 1000;at total*round*tight", 8, 4, 0);
        later.fold(0, 1, 1);
        later.press(0, 99);
        due("at 8*1*99", later.ridge(0, 1, 1), 6);
        later.press(0, 16);
        due("12*2*16 of 6", later.ridge(0, 3, 1), 2);
    }

    // ==== PRESSED

    private static void pressings() {
        sentence(6, "PRESSED so tight (1 to 99)");
        limits("tight", 1, 99, tight -> halving(8, 4).press(0, tight));
        sentence(6, "how many FACETS BREAK; NONE, and nothing happens, without these, or if there are 60 ROUNDS");
        for (int tight : new int[] {MIN, -1, 0, 100, MAX}) refused("press(0, " + tight + ")", NONE, pressedTwice(), x -> x.press(0, tight));
        for (int sheet : new int[] {MIN, -1, 1, 5, 6, MAX}) refused("press(" + sheet + ", 1)", NONE, pressedTwice(), x -> x.press(sheet, 1));
        due("none breaks", still(8, 4).press(0, 1), 0);
    }

    private static Supplier<CrumpledSheet> pressedTwice() {
        return () -> {
            CrumpledSheet x = with("breaks 700", 30, 20, 5);
            press(x, 0, 9, 2);
            return x;
        };
    }

    private static void sixtyRounds() {
        sentence(6, "its ROUND (0 at first, 60 at most) is one more");
        CrumpledSheet x = with("breaks 1000 if round=60", 8, 4, 7);
        due("at first", x.of(0, 2), 0);
        for (int i = 1; i <= 59; i++) x.press(0, 1);
        due("59", x.of(0, 2), 59);
        due("the sixtieth", x.press(0, 1), 1);
        due("60", x.of(0, 2), 60);
        due("its RIDGE's ROUND", x.ridge(0, 0, 4), 60);
        due("a sixty-first", x.press(0, 1), NONE);
        due("60", x.of(0, 2), 60);
        sentence(6, "NONE, and nothing happens, without these, or if there are 60 ROUNDS");
        refused("a sixty-first", NONE, () -> {
            CrumpledSheet y = with("breaks 20", 30, 20, 5);
            press(y, 0, 1, 60);
            return y;
        }, y -> y.press(0, 1));
        CrumpledSheet two = with("breaks 0", 8, 4, 0);
        two.sheet(8, 4, 0, 0);
        press(two, 0, 1, 60);
        due("each SHEET has its own", two.press(1, 1), 0);
    }

    // ==== FOLDED

    private static void foldings() {
        sentence(7, "FOLDED by way (0 upright, 1 level) at a place (1 to the side less 1)");
        limits("way", 0, 1, way -> still(8, 8).fold(0, way, 3));
        int[][] sides = {{8, 4}, {4, 8}, {2, 2}, {2, 200}, {200, 2}, {200, 200}};
        for (int[] s : sides) {
            limits("upright of " + s[0], 1, s[0] - 1, place -> still(s[0], s[1]).fold(0, 0, place));
            limits("level of " + s[1], 1, s[1] - 1, place -> still(s[0], s[1]).fold(0, 1, place));
            limits("upright, turned", 1, s[1] - 1, place -> turned(s[0], s[1]).fold(0, 0, place));
            limits("level, turned", 1, s[0] - 1, place -> turned(s[0], s[1]).fold(0, 1, place));
        }
        sentence(7, "one RIDGE comes over the whole SHEET, kind 1, of the ROUND that is, USED 1");
        CrumpledSheet x = still(200, 200);
        x.fold(0, 0, 199);
        ridge(x, 0, 0, 199, 0, 200, 0, 1, 1);
        press(x, 0, 1, 60);
        due("also in the last ROUND", x.fold(0, 1, 1), 2);
        ridge(x, 1, 1, 1, 0, 200, 60, 1, 1);
        facet(x, 3, 199, 1, 1, 199, 2);
        sentence(7, "FOLDED: how many FACETS are cut; NONE, and nothing happens, without these, or if it can't be");
        int[][] bad = {{0, 0, 0}, {0, 0, 30}, {0, 0, 31}, {0, 1, 0}, {0, 1, 20}, {0, 0, -1}, {0, 0, MIN}, {0, 0, MAX}, {0, 2, 3}, {0, -1, 3},
            {1, 0, 3}, {-1, 0, 3}, {MAX, 0, 3}, {0, MIN, 3}};
        for (int[] b : bad) refused("fold(" + b[0] + ", " + b[1] + ", " + b[2] + ")", NONE, pressedTwice(), y -> y.fold(b[0], b[1], b[2]));
    }

    private static CrumpledSheet turned(int wide, int high) {
        CrumpledSheet x = still(wide, high);
        x.turn(0);
        return x;
    }

    private static void foldsThroughSome() {
        sentence(7, "all FACETS that it goes through (place behind their beginning, ahead of their end) are cut there, by their numbers, "
            + "each with a new one behind all");
        // FACETS 3 by 1, 8 by 3 and 5 by 1: the first ends and the last begins at 3
        Supplier<CrumpledSheet> three = () -> {
            CrumpledSheet x = with("breaks 1000 if area=8;at 375", 8, 4, 0);
            x.fold(0, 1, 1);
            x.press(0, 1);
            return x;
        };
        CrumpledSheet x = three.get();
        due("through the one that neither begins nor ends there", x.fold(0, 0, 3), 1);
        facet(x, 0, 0, 0, 3, 1);
        facet(x, 1, 0, 1, 3, 3);
        facet(x, 2, 3, 0, 5, 1);
        facet(x, 3, 3, 1, 5, 3);
        ridge(x, 2, 0, 3, 0, 4, 1, 1, 1);
        due("one behind the beginning", x.fold(0, 0, 4), 2);
        facet(x, 2, 3, 0, 1, 1);
        facet(x, 4, 4, 0, 4, 1);
        facet(x, 5, 4, 1, 4, 3);
        due("one ahead of the end", x.fold(0, 0, 2), 2);
        due("one ahead of the end", x.fold(0, 0, 7), 2);
        sentence(7, "It can't be, if it goes through none");
        for (int place : new int[] {2, 3, 4, 7}) due("all end there", x.fold(0, 0, place), NONE);
        due("level", x.fold(0, 1, 1), NONE);
        refused("a fold once more", NONE, () -> {
            CrumpledSheet y = three.get();
            y.fold(0, 0, 3);
            return y;
        }, y -> y.fold(0, 0, 3));
        CrumpledSheet z = halving(8, 4);
        z.press(0, 1);
        due("where it broke all over", z.fold(0, 0, 4), NONE);
        due("across it", z.fold(0, 1, 3), 2);
    }

    /** So many columns with so many rows each. */
    private static CrumpledSheet grid(int columns, int rows) {
        CrumpledSheet x = still(200, 200);
        for (int i = 1; i < columns; i++) x.fold(0, 0, i);
        for (int i = 1; i < rows; i++) x.fold(0, 1, i);
        return x;
    }

    private static void roomForFolds() {
        sentence(7, "or there is no room for all");
        CrumpledSheet one = grid(1, 199);
        due("199 and 1", one.fold(0, 1, 199), 1);
        due("FACETS", one.of(0, 3), 200);
        due("200 and 200", one.fold(0, 0, 1), NONE);
        CrumpledSheet two = grid(2, 99);
        due("198 and 2", two.fold(0, 1, 99), 2);
        due("200 and 2", two.fold(0, 1, 100), NONE);
        due("FACETS", two.of(0, 3), 200);
        due("no RIDGE came", two.of(0, 4), 100);
        CrumpledSheet ten = grid(19, 10);
        due("190 and 10", ten.fold(0, 0, 19), 10);
        due("200 and 10", ten.fold(0, 0, 20), NONE);
        due("200 and 20", ten.fold(0, 1, 20), NONE);
        due("half of all", grid(100, 1).fold(0, 1, 100), 100);
        due("more than half of all", grid(101, 1).fold(0, 1, 100), NONE);
        refused("198 and 3", NONE, () -> grid(3, 66), x -> x.fold(0, 1, 66));
        refused("198 and 66", NONE, () -> grid(3, 66), x -> x.fold(0, 0, 3));
    }

    // ==== TURNED, DONE

    private static void turns() {
        sentence(8, "TURNED: true; false without it");
        limits("turn of one", 0, 0, 0, sheet -> still(8, 4).turn(sheet) ? 1 : 0);
        for (int sheet : new int[] {MIN, -1, 1, 6, MAX}) refused("turn(" + sheet + ")", 0, pressedTwice(), x -> x.turn(sheet) ? 1 : 0);
        sentence(8, "wide and high, x and y change places, ways of RIDGES too (places, from, to stay)");
        CrumpledSheet x = with("breaks 1000;at 999", 200, 2, 0);
        x.press(0, 1);
        x.turn(0);
        dueRow("of", i -> x.of(0, i), 2, 200, 1, 2, 1, 2);
        facet(x, 0, 0, 0, 2, 199, 3);
        facet(x, 1, 0, 199, 2, 1, 3);
        ridge(x, 0, 1, 199, 0, 2, 1, 0, 1);
        x.turn(0);
        dueRow("of", i -> x.of(0, i), 200, 2, 1, 2, 1, 2);
        facet(x, 1, 199, 0, 1, 2, 3);
        ridge(x, 0, 0, 199, 0, 2, 1, 0, 1);
        CrumpledSheet later = halved(3);
        later.fold(0, 1, 1);
        press(later, 0, 9, 1);
        later.turn(0);
        ridge(later, 0, 1, 4, 0, 4, 1, 0, 4);
        ridge(later, 2, 1, 6, 0, 4, 2, 0, 3);
        ridge(later, 7, 0, 1, 0, 8, 3, 1, 2);
        dueRow("adds of ROUND", r -> later.adds(0, r), 0, 4, 8, 8 + 8);
        dueRow("foretold of ROUND", r -> later.foretold(0, r), NONE, 4000, 8000, 8000);
        CrumpledSheet full = grid(20, 10);
        full.turn(0);
        due("the last FACET too", full.facet(0, 199, 0) * 1000 + full.facet(0, 199, 1), 9 * 1000 + 19);
        due("the last RIDGE too", full.ridge(0, 27, 0), 0);
        due("the first RIDGE too", full.ridge(0, 0, 0), 1);
    }

    private static CrumpledSheet withDoing(String doing, int rounds) {
        CrumpledSheet x = still(8, 4);
        text(x, DOING, doing);
        press(x, 0, 1, rounds);
        return x;
    }

    private static void doings() {
        sentence(9, "till one can't be (a ROUND above 60, a FOLD that can't be): how many acts were");
        String sixty = "press 1 times 60";
        int[][] rounds = {{0, 60}, {1, 59}, {59, 1}, {60, 0}};
        for (int[] r : rounds) {
            CrumpledSheet x = withDoing(sixty, r[0]);
            due("sixty from ROUND " + r[0], x.done(0, 0), r[1]);
            due("ROUNDS", x.of(0, 2), 60);
            due("once more", x.done(0, 0), 0);
        }
        due("sixty and more acts", withDoing(sixty + ";turn".repeat(11), 0).done(0, 0), 71);
        due("none behind what can't be", withDoing(sixty + ";turn;fold level 1", 1).done(0, 0), 59);
        CrumpledSheet x = withDoing(sixty + ";turn", 1);
        x.done(0, 0);
        due("not TURNED then", x.of(0, 0), 8);
        due("the last act", withDoing("turn;press 1;turn", 59).done(0, 0), 3);
        due("beyond it", withDoing("turn;press 1;turn", 60).done(0, 0), 1);
        due("the last place", withDoing("fold upright 7;fold level 3", 0).done(0, 0), 2);
        due("beyond the side", withDoing("fold upright 8;fold level 3", 0).done(0, 0), 0);
        due("beyond the side", withDoing("fold upright 7;fold level 4", 0).done(0, 0), 1);
        due("twice at one place", withDoing("fold upright 7;fold upright 7;turn", 0).done(0, 0), 1);
        due("TURNED between", withDoing("turn;fold upright 3;fold upright 4", 0).done(0, 0), 2);
        due("TURNED between", withDoing("turn;fold level 7;fold level 8", 0).done(0, 0), 2);
        CrumpledSheet full = grid(100, 1);
        text(full, DOING, "fold level 199;press 1;fold level 1;turn");
        due("no room for a FOLD", full.done(0, 0), 2);
        due("a pressing without room is one", full.of(0, 2), 1);
        sentence(9, "DONE; NONE without these");
        for (int doing : new int[] {MIN, -1, 1, 6, MAX}) refused("done(" + doing + ", 0)", NONE, () -> withDoing("turn", 1), y -> y.done(doing, 0));
        for (int sheet : new int[] {MIN, -1, 1, 6, MAX}) refused("done(0, " + sheet + ")", NONE, () -> withDoing("turn", 1), y -> y.done(0, sheet));
    }

    private static void lastCall() {
        sentence(1, "An object is used for at most 512 calls after it has been made");
        CrumpledSheet x = new CrumpledSheet();
        feed(x, "breaks 0;at 0 ");
        x.end(13);
        x.text(LAW);
        x.sheet(8, 4, 0, 0);
        for (int i = 5; i <= 511; i++) x.turn(0);
        due("the 512th", x.of(0, 0), 4);
    }
}
