import java.util.function.Supplier;

/** Promises 31 to 39 and 41 to 43 and the Terms of VI at their limits: FACETS beside one another, what would be, IMAGES. */
final class FieldBoundaries extends Checks {
    static void run() {
        besideByOne();
        mostOfSeveral();
        stepsOfRows();
        hearts();
        afterDoings();
        afresh();
        alikeRidges();
        whichDoing();
        runsAtTheirEnds();
        runsByDraws();
        untilNoneIsAbove();
        untilTheLastRound();
        countsOfAll();
        imagesOfNothing();
        fourImages();
        allOfAnImage();
        neverMade();
    }

    private static CrumpledSheet row(int facets) {
        CrumpledSheet x = still(200, 2);
        for (int i = 1; i < facets; i++) x.fold(0, 0, i);
        return x;
    }

    private static CrumpledSheet doing(CrumpledSheet x, String... doings) {
        for (String doing : doings) text(x, DOING, doing);
        return x;
    }

    /** Two columns, the left one 1 wide; each is cut level where this SUM of at tells, by its short side 1 or 3. */
    private static CrumpledSheet columns(String at) {
        CrumpledSheet x = with("breaks 1000;at " + at, 4, 8, 0);
        x.fold(0, 0, 1);
        x.press(0, 1);
        return x;
    }

    // ==== BESIDE

    private static void besideByOne() {
        sentence(31, "BESIDE: two FACETS of a SHEET whose sides have a piece of 1 at least in common");
        // the left column is cut at 2: FACETS 0 and 2; the right one FACETS 1 and 3
        dueRow("cut at 2 and 2", f -> columns("250").beside(0, f), 2, 2, 2, 2);
        dueRow("cut at 2 and 3", f -> columns("240+45*short").beside(0, f), 2, 3, 3, 2);
        dueRow("cut at 2 and 7", f -> columns("90+280*short").beside(0, f), 2, 3, 3, 2);
        dueRow("cut at 3 and 2", f -> columns("435-45*short").beside(0, f), 3, 2, 2, 3);
        CrumpledSheet turned = columns("240+45*short");
        turned.turn(0);
        dueRow("turned", f -> turned.beside(0, f), 2, 3, 3, 2);
        CrumpledSheet dust = still(2, 2);
        due("alone", dust.beside(0, 0), 0);
        dust.fold(0, 0, 1);
        dueRow("two", f -> dust.beside(0, f), 1, 1, NONE);
        dust.fold(0, 1, 1);
        dueRow("not over a corner", f -> dust.beside(0, f), 2, 2, 2, 2, NONE);
        sentence(31, "How many FACETS are BESIDE one; NONE without these");
        limits("facet of one", 0, 0, facet -> still(8, 4).beside(0, facet));
        limits("facet of four", 0, 3, facet -> halved(2).beside(0, facet));
        limits("facet of 200", 0, 199, facet -> row(200).beside(0, facet));
        CrumpledSheet comb = comb();
        due("199 teeth", comb.beside(0, 0), 199);
        due("the first tooth", comb.beside(0, 1), 2);
    }

    /** A FACET 200 by 2 above 199 others in a row. */
    private static CrumpledSheet comb() {
        CrumpledSheet x = with("breaks 1000 if short=1;at 500", 200, 3, 0);
        x.fold(0, 1, 2);
        press(x, 0, 1, 8);
        return x;
    }

    private static void mostOfSeveral() {
        sentence(32, "MOST: the FACET with most BESIDE it, of several the least");
        due("alone", still(8, 4).most(0), 0);
        due("of two", row(2).most(0), 0);
        due("of three in a row", row(3).most(0), 1);
        due("of 200 in a row", row(200).most(0), 1);
        due("of four in a row, 0, 2, 1 and 3", halved(2).most(0), 1);
        due("of 199 teeth", comb().most(0), 0);
        CrumpledSheet last = still(6, 2);
        last.fold(0, 0, 4);
        last.fold(0, 0, 2);
        due("the last one", last.most(0), 2);
        due("of two with 3", columns("240+45*short").most(0), 1);
        due("of two with 3", columns("435-45*short").most(0), 0);
    }

    private static void stepsOfRows() {
        sentence(33, "STEPS from a FACET to another one: the least number of FACETS to go over, each BESIDE the last one, itself not counted");
        CrumpledSheet x = row(200);
        due("from end to end", x.steps(0, 0, 199), 199);
        due("and back", x.steps(0, 199, 0), 199);
        due("to the next one", x.steps(0, 0, 1), 1);
        due("over one", x.steps(0, 100, 98), 2);
        CrumpledSheet four = still(2, 2);
        four.fold(0, 0, 1);
        four.fold(0, 1, 1);
        due("over a corner", four.steps(0, 0, 3), 2);
        due("along a side", four.steps(0, 0, 2), 1);
        due("by a piece of 1", columns("240+45*short").steps(0, 2, 1), 1);
        due("without one", columns("240+45*short").steps(0, 0, 3), 2);
        due("over the comb", comb().steps(0, 1, 199), 2);
        sentence(33, "STEPS; NONE without these");
        limits("from", 0, 3, from -> halved(2).steps(0, from, 0));
        limits("to", 0, 3, to -> halved(2).steps(0, 0, to));
        limits("from of one", 0, 0, from -> still(8, 4).steps(0, from, 0));
        limits("to of one", 0, 0, to -> still(8, 4).steps(0, 0, to));
        limits("to of 200", 0, 199, to -> row(200).steps(0, 199, to));
    }

    private static void hearts() {
        sentence(34, "HEART: the FACET from which the one that is farthest by STEPS is nearest, of several the least");
        int[][] hearts = {{1, 0, 0}, {2, 0, 1}, {3, 1, 1}, {4, 1, 2}, {5, 2, 2}, {199, 99, 99}, {200, 99, 100}};
        for (int[] h : hearts) dueRow("of a row of " + h[0], i -> row(h[0]).heart(0, i), h[1], h[2], NONE);
        CrumpledSheet last = still(6, 2);
        last.fold(0, 0, 4);
        last.fold(0, 0, 2);
        dueRow("the last one", i -> last.heart(0, i), 2, 1);
        dueRow("of two with 3", i -> columns("240+45*short").heart(0, i), 1, 1);
        dueRow("of 199 teeth", i -> comb().heart(0, i), 0, 1);
        sentence(34, "HEART what 0: the FACET, 1: how many STEPS to the farthest one; NONE without these");
        limits("what", 0, 1, what -> halved(2).heart(0, what));
    }

    // ==== AFTER, ALIKE, WHICH

    private static void afterDoings() {
        sentence(35, "AFTER a DOING what 0: acts that were done, 1: FACETS, 2: what all RIDGES are long together; NONE without these");
        limits("what", 0, 2, what -> doing(halved(1), "turn").after(0, 0, what));
        sentence(35, "what there would be if it were DONE to a SHEET as it is (nothing changes)");
        for (int what = 0; what < 3; what++) {
            int asked = what;
            changesNothing("after", () -> doing(halved(2), "press 5 times 3;turn;fold level 1"), x -> x.after(0, 0, asked));
        }
        dueRow("none can be", i -> doing(halved(60), "press 1;turn").after(0, 0, i), 0, 32, 52);
        dueRow("the last ROUND", i -> doing(halved(59), "press 1 times 2").after(0, 0, i), 1, 32, 52);
        dueRow("as it is", i -> doing(halved(1), "press 1 times 2").after(0, 0, i), 2, 8, 20);
        dueRow("till one can't be", i -> doing(halved(0), "fold level 4;press 1").after(0, 0, i), 0, 1, 0);
        dueRow("as it is TURNED", i -> {
            CrumpledSheet x = doing(halved(0), "fold upright 3;fold upright 4");
            x.turn(0);
            return x.after(0, 0, i);
        }, 1, 2, 8);
        CrumpledSheet again = doing(halved(0), "press 1 times 60");
        for (int i = 0; i < 3; i++) due("asked again", again.after(0, 0, 0), 60);
    }

    private static void afresh() {
        sentence(36, "AFRESH: a SHEET as it was told (wide, high, LAW, seed; it is not TURNED then) to which a DOING is DONE");
        CrumpledSheet x = doing(halved(60), "press 1 times 60", "press 1");
        due("though there are 60 ROUNDS", x.alike(0, 0), 31);
        due("though there are 60 ROUNDS", x.alike(0, 1), 1);
        x.turn(0);
        due("not TURNED", x.alike(0, 1), 0);
        x.turn(0);
        due("TURNED back", x.alike(0, 1), 1);
        CrumpledSheet drawn = doing(with("breaks 1000", 50, 40, MAX), "press 9 times 4");
        press(drawn, 0, 9, 4);
        due("from its seed on", drawn.alike(0, 0), drawn.of(0, 4));
        for (int i = 0; i < 3; i++) due("asked again", drawn.alike(0, 0), 15);
        changesNothing("alike", () -> doing(halved(2), "press 1 times 3"), y -> y.alike(0, 0));
    }

    private static void alikeRidges() {
        sentence(36, "ALIKE: RIDGES of a SHEET that have one of the same way, place, from and to among those AFRESH by a DOING");
        String[] square = {"fold upright 1", "fold upright 1;turn", "fold level 2", "fold level 1", "turn", "fold level 2;fold level 1"};
        int[] alike = {0, 1, 0, 1, 0, 1};
        CrumpledSheet x = doing(still(4, 4), square);
        x.fold(0, 1, 1);
        dueRow("of one level fold, DOING", i -> x.alike(0, i), alike);
        CrumpledSheet none = doing(still(4, 4), "fold level 1");
        due("without RIDGES", none.alike(0, 0), 0);
        CrumpledSheet kinds = doing(halved(1), "fold upright 4", "turn;turn;press 9 times 1");
        dueRow("of another kind, ROUND, USED", i -> kinds.alike(0, i), 1, 1, NONE);
        String law = "breaks 1000 if way=1;at 500";
        String three = "fold upright 2;fold upright 4;press 1";
        String two = "fold upright 4;press 1";
        CrumpledSheet first = doing(with(law, 6, 8, 0), three, two);
        first.done(0, 0);
        dueRow("from and to alike, by DOING", i -> first.alike(0, i), 5, 2);
        CrumpledSheet second = doing(with(law, 6, 8, 0), three, two);
        second.done(1, 0);
        dueRow("from and to alike, by DOING", i -> second.alike(0, i), 2, 3);
    }

    private static void whichDoing() {
        sentence(37, "WHICH; -2: there are no DOINGS; NONE without it");
        due("no DOINGS", halved(1).which(0), NOT_THERE);
        due("no DOINGS, no SHEET", halved(1).which(1), NONE);
        limits("sheet", 0, 0, sheet -> doing(halved(1), "turn").which(sheet));
        limits("sheet without DOINGS", 0, 0, sheet -> halved(1).which(sheet));
        sentence(37, "WHICH: the DOING by which most are ALIKE, of several the least");
        due("none is ALIKE", doing(halved(0), "turn").which(0), 0);
        due("none is ALIKE, of six", doing(halved(0), "turn", "turn", "press 1", "turn", "turn", "turn").which(0), 0);
        String[] doings = new String[6];
        for (int best = 0; best < 6; best++) {
            for (int i = 0; i < 6; i++) doings[i] = i == best ? "press 1 times 2" : "press 1";
            due("DOING " + best + " is best", doing(halved(2), doings).which(0), best);
            for (int i = 0; i < 6; i++) doings[i] = i < best ? "turn" : "press 1";
            due("from DOING " + best + " on", doing(halved(2), doings).which(0), best);
        }
        changesNothing("which", () -> doing(halved(2), "press 1 times 3"), x -> x.which(0));
    }

    // ==== RUNS, UNTIL

    private static void runsAtTheirEnds() {
        sentence(38, "RUNS (seed 0 to 2147483647, bar 0 to 99999); NONE without these");
        Supplier<CrumpledSheet> x = () -> doing(halved(0), "press 1 times 2");
        limits("seed", 0, MAX, seed -> x.get().runs(0, 0, seed, 1, 0));
        limits("bar", 0, 99999, bar -> x.get().runs(0, 0, 1, 1, bar));
        sentence(38, "n times (1 to 10) AFRESH");
        limits("n", 1, 10, n -> x.get().runs(0, 0, 1, n, 0));
        for (int n = 1; n <= 10; n++) due("all of " + n, x.get().runs(0, 0, 1, n, 0), n);
        sentence(38, "in how many all RIDGES are long together as a bar or more");
        int[][] bars = {{0, 10}, {11, 10}, {12, 10}, {13, 0}, {99999, 0}};
        for (int[] b : bars) due("a bar of " + b[0], x.get().runs(0, 0, 1, 10, b[0]), b[1]);
        due("nothing is as long as 0", doing(halved(0), "turn").runs(0, 0, 1, 10, 0), 10);
        due("nothing is not as long as 1", doing(halved(0), "turn").runs(0, 0, 1, 10, 1), 0);
        changesNothing("runs", () -> doing(halved(2), "press 1 times 3"), y -> y.runs(0, 0, 5, 10, 3));
    }

    private static void runsByDraws() {
        sentence(38, "the first time with a told seed, each other one with x as the last one left it");
        for (int seed : new int[] {0, 1, 77, MAX - 1, MAX, seedOfDraw(499), seedOfDraw(500), seedOfSecondDraw(499), seedOfSecondDraw(500)}) {
            CrumpledSheet x = doing(with("breaks 500;at 500", 8, 4, 12345), "press 1");
            long next = seed;
            int broken = 0;
            for (int n = 1; n <= 10; n++) {
                // told places need no DRAW: each run has one
                next = next(next);
                if (next / 65536 % 1000 < 500) broken++;
                due("of " + n + " from " + seed, x.runs(0, 0, seed, n, 4), broken);
            }
            due("from its own seed each time", x.runs(0, 0, seed, 10, 4), broken);
        }
        CrumpledSheet rounds = doing(with("breaks 1000 if round=60;at 500", 8, 4, 0), "press 1 times 60");
        due("each begins at ROUND 0", rounds.runs(0, 0, 3, 10, 4), 10);
        press(rounds, 0, 1, 60);
        rounds.turn(0);
        due("as it was told", rounds.runs(0, 0, 3, 10, 4), 10);
    }

    private static void untilNoneIsAbove() {
        sentence(39, "UNTIL no long is above a number (1 to 200); -2: none; NONE without these");
        limits("number", 1, 200, number -> halved(0).until(0, 1, number));
        limits("tight", 1, 99, tight -> halved(0).until(0, tight, 1));
        sentence(39, "how many times a SHEET would have to be PRESSED so tight, as it is, till no FACET's long is above a number");
        int[][] until = {{200, 0}, {9, 0}, {8, 0}, {7, 1}, {4, 1}, {3, 3}, {2, 3}, {1, 5}};
        for (int[] u : until) due("no long above " + u[0], halved(0).until(0, 1, u[0]), u[1]);
        due("as it is", halved(4).until(0, 1, 1), 1);
        due("as it is", halved(5).until(0, 1, 1), 0);
        CrumpledSheet great = still(200, 2);
        due("200 is not above 200", great.until(0, 1, 200), 0);
        due("200 is above 199", great.until(0, 1, 199), NOT_THERE);
        CrumpledSheet high = still(2, 200);
        due("high, not above 200", high.until(0, 1, 200), 0);
        due("high, above 199", high.until(0, 1, 199), NOT_THERE);
        great.fold(0, 0, 1);
        due("the last FACET counts", great.until(0, 1, 198), NOT_THERE);
        due("the last FACET counts", great.until(0, 1, 199), 0);
        CrumpledSheet tight = with("breaks 1000 if tight=99;at 500", 8, 4, 0);
        due("so tight", tight.until(0, 99, 4), 1);
        due("not so tight", tight.until(0, 98, 4), NOT_THERE);
        changesNothing("until", () -> halved(2), x -> x.until(0, 1, 1));
    }

    private static void untilTheLastRound() {
        sentence(39, "(none if it can't be PRESSED any more ahead of that)");
        CrumpledSheet x = with("breaks 1000 if round>=60;at 500", 8, 4, 0);
        due("the sixtieth does it", x.until(0, 1, 4), 60);
        due("the sixtieth does not", x.until(0, 1, 3), NOT_THERE);
        press(x, 0, 1, 59);
        due("one more does it", x.until(0, 1, 4), 1);
        due("one more does not", x.until(0, 1, 3), NOT_THERE);
        x.press(0, 1);
        due("none is needed at ROUND 60", x.until(0, 1, 4), 0);
        due("none can be at ROUND 60", x.until(0, 1, 3), NOT_THERE);
        CrumpledSheet full = with(HALVING, 200, 200, 0);
        for (int i = 1; i < 200; i++) full.fold(0, 1, i);
        due("no room", full.until(0, 1, 199), NOT_THERE);
        due("no room needed", full.until(0, 1, 200), 0);
    }

    // ==== counts, IMAGES

    private static void countsOfAll() {
        sentence(41, "What 0: SHEETS, 1: LAWS, 2: DOINGS, 3: RULES, 4: STRIPS, 5: FACETS of all, 6: RIDGES of all, 7: bytes of the TAPE. "
            + "NONE for others");
        limits("what", 0, 7, what -> halved(1).count(what));
        limits("what of nothing", 0, 7, what -> new CrumpledSheet().count(what));
        CrumpledSheet x = new CrumpledSheet();
        for (int sort = 0; sort < 4; sort++) {
            for (int i = 0; i < 6; i++) text(x, sort, sort == LAW ? HALVING : sort == DOING ? "press 1 times 9" : A_TEXT_OF_EACH_SORT[sort]);
        }
        for (int i = 0; i < 6; i++) {
            x.sheet(200, 200, i, i);
            x.done(i, i);
        }
        for (int i = 0; i < 20; i++) feed(x, "");
        dueRow("all full, count", x::count, 6, 6, 6, 6, 6, 1200, 1194, 400, NONE);
    }

    private static void imagesOfNothing() {
        sentence(42, "An IMAGE is made (also where nothing was told yet): how many SHEETS; NONE for another k");
        limits("image of nothing", 0, 3, k -> new CrumpledSheet().image(k));
        limits("image", 0, 3, k -> halved(1).image(k));
        for (int k : new int[] {MIN, -1, 4, MAX}) refused("image(" + k + ")", NONE, () -> halved(1), x -> x.image(k));
        CrumpledSheet x = new CrumpledSheet();
        for (int k = 0; k < 4; k++) due("of nothing", x.image(k), 0);
        text(x, LAW, HALVING);
        for (int i = 0; i < 6; i++) {
            x.sheet(8, 4, 0, 0);
            due("of " + (i + 1), x.image(0), i + 1);
        }
        due("back to all six", x.back(0), 6);
        due("the sixth", x.of(5, 0), 8);
        due("back to nothing", x.back(1), 0);
        dueRow("counts of nothing", x::count, 0, 1, 0, 0, 0, 0, 0, 0);
        due("no SHEET 0", x.of(0, 0), NONE);
        due("the first again", x.sheet(9, 9, 0, 0), 0);
        due("back to all six", x.back(0), 6);
        due("a seventh", x.sheet(9, 9, 0, 0), NONE);
    }

    private static void fourImages() {
        sentence(43, "IMAGES 0 to 3");
        CrumpledSheet x = with(HALVING, 8, 4, 0);
        for (int k = 0; k < 4; k++) {
            due("made", x.image(k), 1);
            x.press(0, 1);
        }
        for (int k : new int[] {3, 0, 2, 1, 1, 3}) {
            due("back", x.back(k), 1);
            due("the ROUND of IMAGE " + k, x.of(0, 2), k);
            due("its RIDGES", x.of(0, 4), (1 << k) - 1);
            press(x, 0, 1, 2);
            due("goes on from there", x.of(0, 2), k + 2);
        }
        x.back(2);
        due("made once more", x.image(0), 1);
        x.press(0, 1);
        due("back to the later one", x.back(0), 1);
        due("its ROUND", x.of(0, 2), 2);
        due("back to another one", x.back(1), 1);
        due("its ROUND", x.of(0, 2), 1);
        sentence(43, "All is as in an IMAGE: how many SHEETS");
        CrumpledSheet y = halved(1);
        y.image(0);
        y.sheet(9, 9, 0, 0);
        y.image(1);
        due("of one", y.back(0), 1);
        due("no SHEET 1", y.of(1, 0), NONE);
        due("a new one", y.sheet(7, 7, 0, 0), 1);
        due("as told", y.of(1, 0), 7);
        due("of two", y.back(1), 2);
        due("as it was", y.of(1, 0), 9);
    }

    /** SHEETS with all that an IMAGE must hold: TURNED, folded, of many ROUNDS; and IMAGE 2 of it. */
    private static CrumpledSheet rich() {
        CrumpledSheet x = with("breaks 600;at 300 if way=0", 40, 30, 9);
        text(x, LAW, "breaks 900");
        x.sheet(20, 60, 1, 8);
        x.fold(0, 0, 3);
        press(x, 0, 7, 3);
        x.turn(0);
        press(x, 1, 9, 4);
        feed(x, "turn");
        x.image(2);
        return x;
    }

    private static void allOfAnImage() {
        sentence(43, "IMAGES 0 to 3: all but the TAPE and the texts, as it is; gone back to, it is as it was (these stay)");
        changesNothing("an IMAGE, many calls and back", FieldBoundaries::rich, x -> {
            press(x, 0, 50, 3);
            x.fold(1, 1, 7);
            x.turn(1);
            x.sheet(9, 9, 1, 3);
            x.press(2, 5);
            return x.back(2);
        });
        changesNothing("back at once", FieldBoundaries::rich, x -> x.back(2));
        changesNothing("back twice", FieldBoundaries::rich, x -> {
            x.back(2);
            press(x, 1, 50, 2);
            return x.back(2);
        });
        CrumpledSheet x = rich();
        x.end(4);
        due("a text told behind it", x.text(DOING), 0);
        feed(x, "breaks 7");
        due("back", x.back(2), 2);
        due("the DOING stays", x.count(2), 1);
        due("the TAPE stays", x.end(8), 8);
        due("as it was", x.text(LAW), 2);
        due("back", x.back(2), 2);
        due("the LAW stays", x.count(1), 3);
        due("the TAPE is empty still", x.count(7), 0);
    }

    private static void neverMade() {
        sentence(43, "NONE, and nothing happens, if it was never made, or without it");
        for (int k : new int[] {MIN, -1, 0, 1, 3, 4, MAX}) refused("back(" + k + ")", NONE, FieldBoundaries::rich, x -> x.back(k));
        for (int k = 0; k < 4; k++) due("nothing was made", new CrumpledSheet().back(k), NONE);
        limits("back", 0, 3, k -> {
            CrumpledSheet x = halved(1);
            for (int i = 0; i < 4; i++) x.image(i);
            return x.back(k);
        });
        for (int made = 0; made < 4; made++) {
            CrumpledSheet x = halved(1);
            x.image(made);
            for (int k = 0; k < 4; k++) due("back to " + k + " of " + made, x.back(k), k == made ? 1 : NONE);
        }
    }
}
