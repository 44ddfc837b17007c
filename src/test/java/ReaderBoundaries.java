/** Promises 24 to 30 and 40 and the Terms of IV and V at their limits: readers, CORNERS, STRENGTH, STRIPS, maps. */
final class ReaderBoundaries extends Checks {
    static void run() {
        seenByRules();
        nothingSeen();
        wordsOfRules();
        looseEnds();
        looseBesideTheEnd();
        rightRidges();
        oftenByRounds();
        cornersAtTheEdge();
        armsOfCorners();
        flatSheets();
        strengthDownwards();
        strengthAtItsEnds();
        stripsWithoutFolds();
        stripsOfAlikeParts();
        stripsThatStay();
        longestStrips();
        deepestFolds();
        halvesOfMaps();
    }

    private static CrumpledSheet rule(CrumpledSheet x, String rule) {
        text(x, RULE, rule);
        return x;
    }

    /** Folds at 2 and 4 and between them a level RIDGE whose ends both lie inside. */
    private static CrumpledSheet aitch() {
        CrumpledSheet x = with("breaks 1000 if edge=2;at 500", 6, 8, 0);
        x.fold(0, 0, 2);
        x.fold(0, 0, 4);
        x.press(0, 1);
        return x;
    }

    /** A fold; uprights of 7 and of 8 above and below it, both at 4; and levels that end on these on both sides. */
    private static CrumpledSheet tree() {
        CrumpledSheet x = with(HALVING, 8, 15, 0);
        x.fold(0, 1, 7);
        press(x, 0, 1, 2);
        return x;
    }

    private static void seenIs(CrumpledSheet x, String rule, int many, int length, int loose) {
        text(x, RULE, rule);
        dueRow("seen by '" + rule + "'", i -> x.seen(x.count(3) - 1, 0, i), many, length, loose);
    }

    private static void rightIs(CrumpledSheet x, String rule, int many, int first) {
        text(x, RULE, rule);
        dueRow("right by '" + rule + "'", i -> x.right(x.count(3) - 1, 0, i), many, first);
    }

    // ==== SEEN

    private static void seenByRules() {
        sentence(24, "SEEN what 0: how many, 1: how long together, 2: LOOSE ends; NONE without these");
        limits("what", 0, 2, what -> rule(aitch(), "see 1=1").seen(0, 0, what));
        limits("rule", 0, 0, rule -> rule(aitch(), "see 1=1").seen(rule, 0, 0));
        limits("sheet", 0, 0, sheet -> rule(aitch(), "see 1=1").seen(0, sheet, 0));
        sentence(24, "RIDGES of a SHEET for which some see TEST holds (all, if it has none) and no miss TEST");
        seenIs(aitch(), "miss 1=2", 3, 18, 0);
        seenIs(aitch(), "miss 1=1", 0, 0, 0);
        seenIs(aitch(), "miss 1=2;miss kind=0", 2, 16, 0);
        seenIs(aitch(), "see 1=2", 0, 0, 0);
        seenIs(aitch(), "see 1=2;see 1=2;see kind=1", 2, 16, 0);
        seenIs(aitch(), "see kind=1;see 1=2", 2, 16, 0);
        seenIs(aitch(), "see kind=1;see kind=0", 3, 18, 0);
        seenIs(aitch(), "see 1=1;miss place=2", 2, 10, 1);
        seenIs(aitch(), "miss place=2;see 1=1", 2, 10, 1);
        seenIs(aitch(), "see 1=2;miss 1=2", 0, 0, 0);
        seenIs(aitch(), "see 1=1;miss 1=2;miss 1=1", 0, 0, 0);
    }

    private static void nothingSeen() {
        sentence(24, "SEEN by a RULE: RIDGES of a SHEET");
        seenIs(still(8, 4), "see 1=1", 0, 0, 0);
        seenIs(still(8, 4), "miss 1=2", 0, 0, 0);
        CrumpledSheet full = still(200, 200);
        for (int i = 1; i < 200; i++) full.fold(0, 1, i);
        seenIs(full, "see 1=1", 199, 199 * 200, 0);
        seenIs(full, "see place=199", 1, 200, 0);
        seenIs(full, "see place=1", 1, 200, 0);
        changesNothing("seen", () -> rule(aitch(), "see kind=0"), x -> x.seen(0, 0, 2));
    }

    private static void wordsOfRules() {
        sentence(24, "length, round, used, kind, way, place, ends (how many of its ends lie at the SHEET's edge), now (the SHEET's ROUND)");
        seenIs(aitch(), "see ends=0", 1, 2, 2);
        seenIs(aitch(), "see ends=1", 0, 0, 0);
        seenIs(aitch(), "see ends=2", 2, 16, 0);
        seenIs(tree(), "see ends=1", 6, 7 + 8 + 4 * 4, 2);
        seenIs(tree(), "see ends=2", 1, 8, 0);
        seenIs(aitch(), "see length=2 and kind=0 and way=1 and place=4 and round=1 and used=1 and now=1 and ends=0", 1, 2, 2);
        seenIs(aitch(), "see length=8 and kind=1 and way=0 and place=2 and round=0 and used=2 and now=1 and ends=2", 1, 8, 0);
        CrumpledSheet x = still(200, 2);
        x.fold(0, 0, 199);
        seenIs(x, "see round=0 and now=0 and used=1", 1, 2, 0);
        press(x, 0, 1, 60);
        seenIs(x, "see round=0 and now=60 and used=61 and place=199", 1, 2, 0);
        x.fold(0, 0, 1);
        seenIs(x, "see round=60 and now=60 and used=1 and place=1", 1, 2, 0);
        x.turn(0);
        seenIs(x, "see way=1 and ends=2", 2, 4, 0);
    }

    private static void looseEnds() {
        sentence(24, "LOOSE: ends of SEEN RIDGES not at the SHEET's edge through which no SEEN RIDGE of the other way goes");
        seenIs(aitch(), "see 1=1", 3, 18, 0);
        seenIs(aitch(), "see kind=0", 1, 2, 2);
        seenIs(aitch(), "see kind=0 or place=2", 2, 10, 1);
        seenIs(aitch(), "see way=1 or place=4", 2, 10, 1);
        seenIs(aitch(), "see kind=1", 2, 16, 0);
        sentence(24, "of an upright one its lesser and its greater end each");
        CrumpledSheet x = aitch();
        x.turn(0);
        seenIs(x, "see kind=0", 1, 2, 2);
        seenIs(x, "see kind=0 or place=2", 2, 10, 1);
        seenIs(x, "see way=0 or place=4", 2, 10, 1);
        seenIs(x, "see 1=1", 3, 18, 0);
    }

    private static void looseBesideTheEnd() {
        sentence(24, "(its place is the end's, the one's place is from its from to its to, both counted");
        seenIs(tree(), "see 1=1", 7, 8 + 7 + 8 + 16, 0);
        seenIs(tree(), "see length=7;see way=1 and place=11", 3, 15, 3);
        seenIs(tree(), "see length=8 and way=0;see way=1 and place=11", 3, 16, 1);
        seenIs(tree(), "see length=8 and way=0;see way=1 and place=3", 3, 16, 3);
        seenIs(tree(), "see kind=1;see way=1 and place=3", 3, 16, 2);
        seenIs(tree(), "see way=0", 2, 15, 2);
        seenIs(tree(), "see way=0 or kind=1", 3, 23, 0);
        CrumpledSheet x = tree();
        x.turn(0);
        seenIs(x, "see length=7;see way=0 and place=11", 3, 15, 3);
        seenIs(x, "see way=1 or kind=1", 3, 23, 0);
    }

    private static void rightRidges() {
        sentence(25, "RIGHT what 0: how many, 1: the first (-2: none); NONE without these");
        limits("what", 0, 1, what -> rule(aitch(), "see kind=0").right(0, 0, what));
        limits("rule", 0, 0, rule -> rule(aitch(), "see kind=0").right(rule, 0, 0));
        limits("sheet", 0, 0, sheet -> rule(aitch(), "see kind=0").right(0, sheet, 0));
        rightIs(still(8, 4), "see 1=1", 0, NOT_THERE);
        rightIs(aitch(), "see 1=1", 0, NOT_THERE);
        rightIs(aitch(), "see 1=2", 0, NOT_THERE);
        rightIs(aitch(), "see kind=1", 0, NOT_THERE);
        sentence(25, "RIDGES not SEEN that go through a LOOSE end of another way so");
        rightIs(aitch(), "see kind=0", 2, 0);
        rightIs(aitch(), "see kind=0 or place=2", 1, 1);
        rightIs(aitch(), "see kind=0 or place=4", 1, 0);
        rightIs(tree(), "see way=0", 1, 0);
        rightIs(tree(), "see length=7;see way=1 and place=11", 2, 0);
        rightIs(tree(), "see kind=1;see way=1 and place=11", 1, 2);
        rightIs(tree(), "see kind=1;see way=1 and place=3", 1, 1);
        rightIs(tree(), "see kind=0 and way=1", 2, 1);
        CrumpledSheet x = aitch();
        x.turn(0);
        rightIs(x, "see kind=0", 2, 0);
        rightIs(x, "see kind=0 or place=2", 1, 1);
    }

    private static void oftenByRounds() {
        sentence(26, "OFTEN; -2: there is none; NONE without these (the other may be the same)");
        limits("rule", 0, 0, rule -> rule(aitch(), "see 1=1").often(rule, 0, 0));
        limits("sheet", 0, 0, sheet -> rule(aitch(), "see 1=1").often(0, sheet, 0));
        limits("other", 0, 0, other -> rule(aitch(), "see 1=1").often(0, 0, other));
        due("by itself", rule(aitch(), "see 1=1").often(0, 0, 0), 1);
        due("by itself, the folds", rule(aitch(), "see kind=1").often(0, 0, 0), 0);
        sentence(26, "the least ROUND of it up to which its LENGTH is not below that of what is SEEN");
        // by the other one: 4, 12, 20, 36, 52 long up to its ROUNDS 1 to 5
        int[][] often = {{0, 0}, {1, 1}, {2, 1}, {3, 2}, {6, 2}, {7, 3}, {10, 3}, {11, 4}, {18, 4}, {19, 5}, {26, 5}, {27, NOT_THERE}};
        for (int[] o : often) {
            CrumpledSheet x = rule(with(HALVING, 100, 2, 0), "see 1=1");
            for (int i = 1; i <= o[0]; i++) x.fold(0, 0, i);
            x.sheet(8, 4, 0, 0);
            press(x, 1, 1, 60);
            due("of " + 2 * o[0], x.often(0, 0, 1), o[1]);
        }
        CrumpledSheet none = rule(with(HALVING, 8, 4, 0), "see 1=1");
        none.sheet(8, 4, 0, 0);
        due("nothing by nothing", none.often(0, 0, 1), 0);
        none.press(0, 1);
        due("something by nothing", none.often(0, 0, 1), NOT_THERE);
        CrumpledSheet last = rule(with("breaks 1000 if round=60;at 500", 8, 4, 0), "see 1=1");
        press(last, 0, 1, 60);
        due("in the last ROUND", last.often(0, 0, 0), 60);
    }

    // ==== CORNERS, FLAT

    private static void cornersAtTheEdge() {
        sentence(27, "CORNERS what 0: how many, 2 to 4: with so many ARMS; NONE without these");
        for (int what : new int[] {MIN, -1, 1, 5, 65536, 65538, MAX}) due("what " + what, aitch().corners(0, what), NONE);
        for (int what : new int[] {0, 2, 3, 4}) dueNot("what " + what, aitch().corners(0, what), NONE);
        limits("sheet", 0, 0, sheet -> aitch().corners(sheet, 0));
        sentence(27, "points inside a SHEET (not at its edge) at which a RIDGE ends, or RIDGES of both ways go through");
        due("without RIDGES", still(2, 2).corners(0, 0), 0);
        CrumpledSheet least = still(2, 2);
        least.fold(0, 0, 1);
        due("ends at the edge", least.corners(0, 0), 0);
        least.fold(0, 1, 1);
        due("one point inside", least.corners(0, 0), 1);
        due("of four ARMS", least.corners(0, 4), 1);
        CrumpledSheet greatest = still(200, 200);
        for (int way = 0; way < 2; way++) {
            greatest.fold(0, way, 1);
            greatest.fold(0, way, 199);
        }
        due("beside all edges", greatest.corners(0, 0), 4);
        due("of four ARMS", greatest.corners(0, 4), 4);
        CrumpledSheet odd = still(2, 200);
        odd.fold(0, 0, 1);
        odd.fold(0, 1, 199);
        due("near the far edge", odd.corners(0, 0), 1);
        odd.turn(0);
        due("turned", odd.corners(0, 0), 1);
        due("turned, of four ARMS", odd.corners(0, 4), 1);
        CrumpledSheet grid = still(200, 200);
        for (int i = 1; i <= 9; i++) grid.fold(0, 0, i * 20);
        for (int i = 1; i <= 19; i++) grid.fold(0, 1, i * 10);
        due("of 200 FACETS", grid.corners(0, 4), 9 * 19);
    }

    private static void armsOfCorners() {
        sentence(27, "ARMS of a CORNER: of up, down, left, right those in which a RIDGE goes on from it by 1 at least");
        dueRow("both ends inside", i -> aitch().corners(0, i == 0 ? 0 : i + 1), 2, 0, 2, 0);
        CrumpledSheet turned = aitch();
        turned.turn(0);
        dueRow("turned", i -> turned.corners(0, i == 0 ? 0 : i + 1), 2, 0, 2, 0);
        dueRow("from both sides", i -> tree().corners(0, i == 0 ? 0 : i + 1), 3, 0, 0, 3);
        CrumpledSheet one = with("breaks 1000 if area=2;at 500", 2, 3, 0);
        one.fold(0, 1, 1);
        one.press(0, 1);
        dueRow("by 1 alone", i -> one.corners(0, i == 0 ? 0 : i + 1), 1, 0, 1, 0);
        CrumpledSheet across = aitch();
        across.fold(0, 1, 4);
        dueRow("a fold along it", i -> across.corners(0, i == 0 ? 0 : i + 1), 2, 0, 0, 2);
        changesNothing("corners", () -> aitch(), x -> x.corners(0, 0));
        CrumpledSheet again = aitch();
        for (int i = 0; i < 3; i++) due("asked again", again.corners(0, 3), 2);
        again.fold(0, 0, 1);
        due("asked again", again.corners(0, 0), 2);
        again.fold(0, 1, 7);
        due("three more", again.corners(0, 4), 3);
    }

    private static void flatSheets() {
        sentence(28, "1 if it is FLAT, 0 if not; NONE without it");
        limits("sheet", 0, 0, sheet -> aitch().flat(sheet));
        due("without RIDGES", still(2, 2).flat(0), 1);
        sentence(28, "each CORNER has four ARMS, or two that are one behind the other");
        CrumpledSheet x = still(2, 2);
        x.fold(0, 0, 1);
        due("without CORNERS", x.flat(0), 1);
        x.fold(0, 1, 1);
        due("four ARMS", x.flat(0), 1);
        due("three ARMS", aitch().flat(0), 0);
        CrumpledSheet across = aitch();
        across.fold(0, 1, 4);
        due("four ARMS each", across.flat(0), 1);
        CrumpledSheet two = with("breaks 1000 if area<9;at 500", 6, 8, 0);
        two.fold(0, 0, 2);
        two.fold(0, 1, 4);
        due("one of four", two.flat(0), 1);
        two.press(0, 1);
        due("one of three among them", two.flat(0), 0);
        due("from both sides", tree().flat(0), 1);
    }

    // ==== STRENGTH

    private static void strengthDownwards() {
        sentence(29, "of each RIDGE its length * USED (that, all of it, by 2, downwards, if it is SOFT: USED as often as the LAW's soft or more), "
            + "together, times 100 by tight, downwards");
        int[][] want = {{1, 300}, {2, 150}, {3, 100}, {7, 42}, {50, 6}, {99, 3}};
        CrumpledSheet x = still(5, 3);
        x.fold(0, 0, 1);
        for (int[] w : want) due("3, so tight " + w[0], x.strength(0, w[0]), w[1]);
        CrumpledSheet y = with("breaks 0;soft 2", 5, 3, 0);
        y.fold(0, 0, 1);
        due("USED 1 of 2", y.strength(0, 1), 300);
        y.press(0, 1);
        due("USED 2 of 2: all of 6 by 2", y.strength(0, 1), 300);
        y.press(0, 1);
        due("USED 3 of 2: 9 by 2, downwards", y.strength(0, 1), 400);
        y.fold(0, 0, 2);
        due("and one that is not SOFT", y.strength(0, 1), 700);
        CrumpledSheet each = with("breaks 0;soft 1", 5, 3, 0);
        each.fold(0, 0, 1);
        each.fold(0, 0, 2);
        due("each downwards, not all", each.strength(0, 1), 200);
        due("by tight at last", each.strength(0, 99), 2);
        due("without RIDGES", still(5, 3).strength(0, 1), 0);
    }

    private static void strengthAtItsEnds() {
        sentence(29, "STRENGTH; NONE without these");
        limits("tight", 1, 99, tight -> aitch().strength(0, tight));
        limits("sheet", 0, 0, sheet -> aitch().strength(sheet, 1));
        CrumpledSheet x = still(200, 200);
        for (int i = 1; i < 200; i++) x.fold(0, 1, i);
        press(x, 0, 1, 60);
        due("the greatest", x.strength(0, 1), 199 * 200 * 61 * 100);
        due("the least of it", x.strength(0, 99), 199 * 200 * 61 * 100 / 99);
    }

    // ==== STRIPS

    private static void stripIs(String strip, int... want) {
        CrumpledSheet x = new CrumpledSheet();
        due("strip '" + strip + "'", text(x, STRIP, strip), 0);
        dueRow("strip '" + strip + "' what", i -> x.strip(0, i), want);
    }

    private static CrumpledSheet stripped(String strip) {
        CrumpledSheet x = new CrumpledSheet();
        text(x, STRIP, strip);
        return x;
    }

    private static void stripsWithoutFolds() {
        sentence(30, "-2 without these");
        limits("strip", 0, 0, NOT_THERE, strip -> stripped("2M1V2").strip(strip, 0));
        limits("what", 0, 5, NOT_THERE, what -> stripped("2M1V2").strip(0, what));
        due("no STRIPS", new CrumpledSheet().strip(0, 0), NOT_THERE);
        sentence(30, "5: DEEPEST (NONE: no FOLDS)");
        stripIs("1", 0, 1, 0, 0, 1, NONE, NOT_THERE);
        stripIs("9999", 0, 1, 0, 0, 9999, NONE, NOT_THERE);
        stripIs("1M1", 1, 1, 1, 0, 1, 0, NOT_THERE);
        stripIs("1V9999", 1, 1, 1, 0, 9999, 0, NOT_THERE);
        stripIs("9999V1", 1, 1, 1, 0, 9999, 0, NOT_THERE);
    }

    private static void stripsOfAlikeParts() {
        sentence(30, "if the first part is not longer than the second one, it goes with its FOLD");
        stripIs("3M3M5", 2, 1, 2, 0, 5, 0);
        stripIs("4M3M5", 2, 0, 0, 2, 4, 0);
        stripIs("2M3M5", 2, 1, 2, 0, 5, 0);
        sentence(30, "else, if the last one is not longer than the one ahead of it, it goes with its FOLD");
        stripIs("5M3M3", 2, 1, 2, 0, 5, 0);
        stripIs("5M3M4", 2, 0, 0, 2, 5, 0);
        stripIs("5M3M2", 2, 1, 2, 0, 5, 0);
        sentence(30, "else the first FOLD that is unlike the next one, with a part between them not longer than its neighbours on both sides");
        stripIs("9M3M3V5V9", 4, 1, 2, 0, 13, 0);
        stripIs("9M3V3V5V9", 4, 0, 1, 2, 9, 1);
        stripIs("9V4V3V5V9", 4, 0, 0, 4, 9, 1);
        due("longer than the one behind", stripped("9M4V3V9").strip(0, 3), 3);
        due("longer than the one ahead", stripped("9V3V4M9").strip(0, 3), 3);
        due("as long as the one behind", stripped("9M4V4V9").strip(0, 3), 0);
        due("as long as the one ahead", stripped("9V4V4M9").strip(0, 3), 0);
        stripIs("9M4V3M9", 3, 1, 2, 0, 10, 0);
        stripIs("5V3M3M1V1V3", 5, 1, 3, 0, 5);
        stripIs("3M3V6", 2, 1, 2, 0, 6, 0);
        stripIs("6M4V4", 2, 1, 2, 0, 6, 0);
        sentence(30, "these three parts become one, as long as the neighbours together less the part between, both FOLDS go");
        stripIs("2M1V2", 2, 1, 1, 0, 3, 0);
        stripIs("9999M1V9999", 2, 1, 1, 0, 19997, 0);
        stripIs("2V1M2", 2, 1, 1, 0, 3, 0);
    }

    private static void stripsThatStay() {
        sentence(30, "It LIES FLAT, if no FOLD is left at the end; STEPS: how often; REST: what is left: FOLDS, the first part's length");
        stripIs("2M1M2", 2, 0, 0, 2, 2, 0);
        stripIs("2V1V2", 2, 0, 0, 2, 2, 0);
        stripIs("1M2M1M2M1", 4, 0, 2, 2, 2, 1);
        stripIs("9M8M7M6M5M4M9", 6, 0, 0, 6, 9, 4);
        stripIs("5M4M5M4M5", 4, 0, 0, 4, 5, 0);
        stripIs("1V5M4M5V1", 4, 0, 2, 2, 5, 1);
    }

    private static void longestStrips() {
        sentence(30, "20 FOLDS at most");
        stripIs("1M".repeat(20) + "1", 20, 1, 20, 0, 1, 0);
        stripIs("9M1M".repeat(10) + "9", 20, 0, 0, 20, 9, 0);
        stripIs("9999M1V".repeat(10) + "9999", 20, 1, 10, 0, 11 * 9999 - 10, 0);
        stripIs("9V".repeat(20) + "8", 20, 1, 20, 0, 9, 0);
        stripIs("9V8V".repeat(10) + "9", 20, 0, 0, 20, 9, 0);
    }

    private static void deepestFolds() {
        sentence(30, "DEEPEST: of all FOLDS of a STRIP that one which, turned to the other kind, leaves the fewest FOLDS at the end, "
            + "of several the first");
        String[] strips = {"3M6V1M7", "6M4V7M6M2V9", "5M4V5M6", "4V2M7V4M6V2", "8M2V4M7V8M1V5M5", "2M1M2", "9M8M7M6M5M4M9"};
        int[] deepest = {0, 2, 2, 4, 6, 0, 4};
        for (int i = 0; i < strips.length; i++) due(strips[i], stripped(strips[i]).strip(0, 5), deepest[i]);
        due("of twenty", stripped("2M3M14V5M17V5M20V10M2V5M3V11M16M6V12V20V13M20M10M8M16").strip(0, 5), 18);
        CrumpledSheet x = stripped("5M4V5M6");
        due("ahead", x.strip(0, 3), 0);
        x.strip(0, 5);
        dueRow("asking turns none", i -> x.strip(0, i), 3, 1, 2, 0, 6, 2);
    }

    private static void halvesOfMaps() {
        sentence(40, "a map of m by n fields (1 to 999 each)");
        limits("m", 1, 999, m -> new CrumpledSheet().halves(m, 1));
        limits("n", 1, 999, n -> new CrumpledSheet().halves(1, n));
        limits("m", 1, 999, m -> new CrumpledSheet().halves(m, 999));
        sentence(40, "the least k with 2 to the k-th not below m, and likewise of n, together");
        CrumpledSheet x = new CrumpledSheet();
        int[][] halves = {{1, 0}, {2, 1}, {3, 2}, {4, 2}, {5, 3}, {8, 3}, {9, 4}, {16, 4}, {17, 5}, {32, 5}, {33, 6}, {64, 6}, {65, 7},
            {128, 7}, {129, 8}, {256, 8}, {257, 9}, {511, 9}, {512, 9}, {513, 10}, {999, 10}};
        for (int[] h : halves) {
            due("halves of " + h[0] + " by 1", x.halves(h[0], 1), h[1]);
            due("halves of 1 by " + h[0], x.halves(1, h[0]), h[1]);
            due("halves of 999 by " + h[0], x.halves(999, h[0]), 10 + h[1]);
        }
    }
}
