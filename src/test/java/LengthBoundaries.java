import java.util.function.IntFunction;

/** Promises 13 to 23 and the Terms of III at their limits: lengths by ROUNDS, what comes next, sizes. */
final class LengthBoundaries extends Checks {
    static void run() {
        roundsOfLengths();
        lastRound();
        expectedOfSmallFacets();
        expectedAtItsEnds();
        roundsOfForetold();
        foretoldIsExpected();
        roundsOfMiss();
        missWithoutSign();
        guessByRounds();
        guessOfSeveral();
        curves();
        sizesOfFew();
        classesAtTheirEnds();
        apartness();
        likestOfSeveral();
    }

    // ==== LENGTH, ADDS

    private static void roundsOfLengths() {
        for (int rounds : new int[] {0, 1, 60}) {
            sentence(13, "LENGTH up to a ROUND (0 to 60); NONE without these");
            limits("length up to", 0, 60, round -> halved(rounds).length(0, round));
            sentence(14, "ADDS in a ROUND (0 to 60); NONE without these");
            limits("adds in", 0, 60, round -> halved(rounds).adds(0, round));
        }
        CrumpledSheet x = with(HALVING, 8, 4, 0);
        x.fold(0, 1, 1);
        press(x, 0, 1, 1);
        x.fold(0, 0, 1);
        sentence(13, "LENGTH of a SHEET up to a ROUND: of all RIDGES that came in it or ahead of it");
        dueRow("length up to", r -> x.length(0, r), 8, 8 + 4 + 4, 16);
        due("far beyond its ROUND", x.length(0, 60), 16);
        sentence(14, "ADDS in a ROUND: of those that came in it");
        dueRow("adds in", r -> x.adds(0, r), 8, 8, 0);
        due("far beyond its ROUND", x.adds(0, 60), 0);
        CrumpledSheet without = with(HALVING, 8, 4, 0);
        due("without RIDGES", without.length(0, 60), 0);
        due("without RIDGES", without.adds(0, 0), 0);
    }

    private static void lastRound() {
        CrumpledSheet x = with("breaks 1000 if round=60;at 500", 8, 4, 0);
        press(x, 0, 1, 60);
        sentence(13, "LENGTH up to a ROUND (0 to 60)");
        due("up to 59", x.length(0, 59), 0);
        due("up to 60", x.length(0, 60), 4);
        sentence(14, "ADDS in a ROUND (0 to 60)");
        due("in 59", x.adds(0, 59), 0);
        due("in 60", x.adds(0, 60), 4);
        x.fold(0, 1, 1);
        due("with what was folded in it", x.adds(0, 60), 12);
        CrumpledSheet full = with(HALVING, 200, 200, 0);
        for (int i = 1; i < 200; i++) full.fold(0, 1, i);
        sentence(13, "of all RIDGES that came in it or ahead of it");
        due("of 199 RIDGES", full.length(0, 0), 199 * 200);
        due("of 199 RIDGES", full.adds(0, 0), 199 * 200);
        due("what all RIDGES are long together", full.of(0, 5), 199 * 200);
    }

    // ==== EXPECTED, FORETOLD, MISS

    private static void expectedOfSmallFacets() {
        sentence(15, "of each FACET with a long of 2 or more what breaks would tell (held) times its short, together (thousandths)");
        CrumpledSheet x = with("breaks 5000;at 500", 2, 2, 0);
        due("2 by 2", x.expected(0, 1, 0), 2000);
        x.fold(0, 0, 1);
        due("1 by 2, twice", x.expected(0, 1, 0), 2000);
        x.fold(0, 1, 1);
        due("1 by 1", x.expected(0, 1, 0), 0);
        sentence(15, "LIKELY: what breaks would tell of these alone, together");
        due("1 by 1", x.expected(0, 1, 1), 0);
        CrumpledSheet y = with("breaks 5000", 3, 2, 0);
        y.fold(0, 0, 1);
        due("both held", y.expected(0, 1, 1), 2000);
        y.fold(0, 1, 1);
        due("2 by 1 alone", y.expected(0, 1, 1), 2000);
        due("2 by 1 alone", y.expected(0, 1, 0), 2000);
        CrumpledSheet below = with("breaks 0-1", 9, 9, 0);
        due("held to 0", below.expected(0, 1, 0), 0);
        due("held to 0", below.expected(0, 1, 1), 0);
    }

    private static void expectedAtItsEnds() {
        sentence(15, "What 0: EXPECTED, 1: LIKELY; NONE without these");
        limits("tight", 1, 99, tight -> halved(1).expected(0, tight, 0));
        limits("tight", 1, 99, tight -> halved(1).expected(0, tight, 1));
        limits("what", 0, 1, what -> halved(1).expected(0, 5, what));
        CrumpledSheet x = with("breaks 10*tight+round", 200, 200, 0);
        due("1 tight", x.expected(0, 1, 1), 11);
        due("99 tight", x.expected(0, 99, 1), 991);
        due("the greatest FACET", x.expected(0, 99, 0), 991 * 200);
        sentence(15, "EXPECTED, if it were PRESSED so tight now");
        press(x, 0, 1, 59);
        due("the last ROUND begins", x.expected(0, 1, 1), x.of(0, 3) * 70);
        changesNothing("expected", () -> halved(2), y -> y.expected(0, 99, 0));
    }

    private static void roundsOfForetold() {
        sentence(16, "FORETOLD of a ROUND (1 to its ROUND); NONE without these");
        due("ROUND 0: not 0", halved(0).foretold(0, 0), NONE);
        due("ROUND 0: not 1", halved(0).foretold(0, 1), NONE);
        for (int rounds : new int[] {1, 2, 59, 60}) {
            limits("foretold at ROUND " + rounds, 1, rounds, round -> halved(rounds).foretold(0, round));
        }
        CrumpledSheet x = halved(60);
        due("the first", x.foretold(0, 1), 4000);
        due("the fifth", x.foretold(0, 5), 16000);
        due("dust", x.foretold(0, 6), 0);
        due("the last", x.foretold(0, 60), 0);
        CrumpledSheet last = with("breaks round+tight", 8, 4, 0);
        press(last, 0, 1, 59);
        int expected = last.expected(0, 99, 0);
        last.press(0, 99);
        due("the last as it was ahead", last.foretold(0, 60), expected);
        due("a refused one changes it not", last.press(0, 1), NONE);
        due("the last as it was ahead", last.foretold(0, 60), expected);
    }

    private static void foretoldIsExpected() {
        sentence(16, "FORETOLD of a ROUND: EXPECTED as it was ahead of its pressing");
        CrumpledSheet x = with("breaks total+100*edge+way*200+tight if area>round;breaks 900", 60, 40, 77);
        int[] expected = new int[13];
        for (int round = 1; round <= 12; round++) {
            if (round == 3) x.fold(0, 1, 11);
            if (round == 5) x.turn(0);
            expected[round] = x.expected(0, 8 * round, 0);
            x.press(0, 8 * round);
        }
        for (int round = 1; round <= 12; round++) due("foretold of " + round, x.foretold(0, round), expected[round]);
        CrumpledSheet full = with("breaks 1000;at 500", 200, 200, 0);
        for (int i = 1; i < 199; i++) full.fold(0, 1, i);
        int ahead = full.expected(0, 1, 0);
        due("of all FACETS", ahead, 199 * 1000 + 1000);
        due("room for one alone", full.press(0, 1), 1);
        due("foretold without regard to room", full.foretold(0, 1), ahead);
    }

    private static void roundsOfMiss() {
        sentence(17, "MISS; NONE without these (from 1, to not above its ROUND, not below from)");
        due("ROUND 0", halved(0).miss(0, 0, 0), NONE);
        due("ROUND 0", halved(0).miss(0, 1, 1), NONE);
        due("ROUND 0", halved(0).miss(0, 1, 0), NONE);
        for (int rounds : new int[] {1, 2, 59, 60}) {
            limits("from, to " + rounds, 1, rounds, from -> halved(rounds).miss(0, from, rounds));
            limits("to, from 1", 1, rounds, to -> halved(rounds).miss(0, 1, to));
            limits("to, from " + rounds, rounds, rounds, to -> halved(rounds).miss(0, rounds, to));
        }
        due("to below from", halved(3).miss(0, 3, 2), NONE);
        due("to below from", halved(3).miss(0, 2, 1), NONE);
        due("to as from", halved(3).miss(0, 2, 2), 0);
        due("far apart", halved(3).miss(0, MIN, MAX), NONE);
        due("far apart", halved(3).miss(0, MAX, MIN), NONE);
    }

    private static void missWithoutSign() {
        sentence(17, "1000 * what was PRESSED in it (ADDS without what was folded) less FORETOLD, without sign, together");
        CrumpledSheet x = with("breaks 1;at 500", 8, 4, seedOfDraw(0));
        due("breaks", x.press(0, 1), 1);
        due("does not", x.press(0, 1), 0);
        due("above", x.miss(0, 1, 1), 4000 - 4);
        due("below", x.miss(0, 2, 2), 8);
        due("together", x.miss(0, 1, 2), 4004);
        x.fold(0, 1, 1);
        due("a fold does not count", x.miss(0, 2, 2), 8);
        due("nor with others", x.miss(0, 1, 2), 4004);
        CrumpledSheet y = with(HALVING, 200, 200, 0);
        for (int i = 1; i < 200; i++) y.fold(0, 1, i);
        press(y, 0, 1, 60);
        due("sixty times 200 FACETS", y.miss(0, 1, 60), 60 * 200 * 1000);
    }

    // ==== GUESS, CURVE

    /** SHEET 1 that was folded so often, 2 long each time, for a guess by SHEET 0. */
    private static int guessOf(CrumpledSheet x, int folds) {
        int sheet = x.sheet(100, 2, 0, 0);
        for (int i = 1; i <= folds; i++) x.fold(sheet, 0, i);
        return x.guess(sheet, 0);
    }

    private static void guessByRounds() {
        sentence(18, "GUESS; -2: the other's ROUND is 0; NONE without these (unlike)");
        due("ROUND 0", guessOf(halved(0), 3), NOT_THERE);
        due("ROUND 1", guessOf(halved(1), 3), 4);
        due("this one's ROUND may be 0", guessOf(halved(2), 0), 4);
        CrumpledSheet two = halved(1);
        two.sheet(8, 4, 0, 0);
        due("by itself", two.guess(0, 0), NONE);
        due("by itself, ROUND 0", two.guess(1, 1), NONE);
        due("the other's ROUND is 0", two.guess(0, 1), NOT_THERE);
        limits("sheet", 1, 1, sheet -> twoHalved().guess(sheet, 0));
        limits("other", 1, 1, other -> twoHalved().guess(0, other));
        sentence(18, "of the other's ROUNDS r (0 to one less than its ROUND)");
        for (int folds : new int[] {18, 26, 60}) due("never its ROUND itself", guessOf(halved(5), folds), 16);
        due("one less", guessOf(halved(4), 10), 16);
        due("two less", guessOf(halved(4), 6), 8);
        due("its ROUND was 5", guessOf(halved(6), 26), 0);
        due("sixty ROUNDS", guessOf(halved(60), 26), 0);
        CrumpledSheet last = with("breaks 1000 if round=1 or round=60;at 500", 8, 4, 0);
        press(last, 0, 1, 60);
        due("r = 59 is as near as 1", guessOf(last, 2), 0);
        CrumpledSheet folded = with("breaks 1000 if round=60;at 500", 8, 4, 0);
        press(folded, 0, 1, 59);
        folded.fold(0, 1, 1);
        folded.press(0, 1);
        due("r = 59 is nearest", guessOf(folded, 4), 1 + 3);
    }

    private static CrumpledSheet twoHalved() {
        CrumpledSheet x = halved(2);
        x.sheet(8, 4, 0, 0);
        x.press(1, 1);
        return x;
    }

    private static void guessOfSeveral() {
        sentence(18, "nearest to what this one's RIDGES are long together (of several the first): the other's ADDS in r + 1");
        due("0", guessOf(halved(5), 0), 4);
        due("2 lies between 0 and 4", guessOf(halved(5), 1), 4);
        due("4", guessOf(halved(5), 2), 8);
        due("6 is nearer 4", guessOf(halved(5), 3), 8);
        due("8 lies between 4 and 12", guessOf(halved(5), 4), 8);
        due("10 is nearer 12", guessOf(halved(5), 5), 8);
        due("28 lies between 20 and 36", guessOf(halved(5), 14), 16);
        CrumpledSheet late = with("breaks 1000 if round=2;at 500", 8, 4, 0);
        press(late, 0, 1, 2);
        due("0 and 1 are as near", guessOf(late, 0), 0);
        CrumpledSheet ahead = with("breaks 1000 if round=1;at 500", 8, 4, 0);
        ahead.fold(0, 1, 1);
        press(ahead, 0, 1, 2);
        due("what was folded ahead counts", guessOf(ahead, 4), 1 + 3);
        due("16 is nearer 12 than 8", guessOf(ahead, 8), 0);
    }

    private static void curves() {
        sentence(19, "CURVE what 0: c, 1: OFF; -2: its ROUND is 0; NONE without these");
        limits("what", 0, 1, what -> halved(1).curve(0, what));
        due("ROUND 0", halved(0).curve(0, 0), NOT_THERE);
        due("ROUND 0", halved(0).curve(0, 1), NOT_THERE);
        due("ROUND 0, no such what", halved(0).curve(0, 2), NONE);
        sentence(19, "c: ADDS in each ROUND r from 1 on times r, together, by its ROUND, downwards");
        int[][] c = {{1, 4}, {2, 10}, {3, 14}, {4, 27}, {5, 37}, {6, 31}, {46, 4}, {47, 4}, {48, 3}, {60, 3}};
        for (int[] r : c) due("c of " + r[0], halved(r[0]).curve(0, 0), r[1]);
        CrumpledSheet still = with("breaks 0", 8, 4, 0);
        still.fold(0, 0, 1);
        still.press(0, 1);
        due("what came in ROUND 0 is left out", still.curve(0, 0), 0);
        still.fold(0, 1, 1);
        due("what is folded in ROUND 1 is not", still.curve(0, 0), 8);
        sentence(19, "OFF: of these ROUNDS ADDS less c by r, downwards, without sign, together");
        int[][] off = {{1, 0}, {2, 6 + 3}, {3, 10 + 1 + 4}, {60, 1 + 7 + 7 + 16 + 16}};
        for (int[] r : off) due("OFF of " + r[0], halved(r[0]).curve(0, 1), r[1]);
        CrumpledSheet last = with("breaks 1000 if round=60;at 500", 8, 4, 0);
        press(last, 0, 1, 60);
        due("the last ROUND alone", last.curve(0, 0), 4);
        due("OFF of it", last.curve(0, 1), 4 + 2 + 1 + 1 + 4);
        due("ROUND 0 is left out of OFF", still.curve(0, 1), 0);
    }

    // ==== sizes

    private static void sizesOfFew() {
        sentence(20, "SIZES what 0: least, 1: greatest, 2: middle; NONE without these");
        limits("what", 0, 2, what -> halved(1).sizes(0, what));
        sentence(20, "areas of FACETS: the least, the greatest, the middle one (of an even number the lesser)");
        CrumpledSheet x = with("breaks 0", 8, 4, 0);
        dueRow("of one", i -> x.sizes(0, i), 32, 32, 32);
        x.fold(0, 0, 3);
        dueRow("of two", i -> x.sizes(0, i), 12, 20, 12);
        x.fold(0, 0, 4);
        dueRow("of three", i -> x.sizes(0, i), 4, 16, 12);
        x.fold(0, 0, 5);
        dueRow("of four", i -> x.sizes(0, i), 4, 12, 4);
        x.fold(0, 0, 1);
        dueRow("of five", i -> x.sizes(0, i), 4, 12, 4);
        CrumpledSheet great = with("breaks 0", 200, 200, 0);
        due("the greatest FACET", great.sizes(0, 1), 40000);
        great.fold(0, 0, 1);
        great.fold(0, 1, 1);
        dueRow("ends", i -> great.sizes(0, i), 1, 199 * 199, 199);
        due("dust", halved(60).sizes(0, 1), 1);
        CrumpledSheet full = with("breaks 0", 2, 200, 0);
        for (int i = 1; i < 200; i++) full.fold(0, 1, i);
        dueRow("of 200", i -> full.sizes(0, i), 2, 2, 2);
    }

    private static void classesAtTheirEnds() {
        sentence(21, "CLASS k (0 to 15): FACETS with an area from 2 to the k-th to one less than 2 to the (k + 1)-th");
        limits("class", 0, 15, k -> halved(1).classes(0, k));
        int[][] sides = {{2, 2, 2}, {3, 2, 2}, {4, 2, 3}, {5, 3, 3}, {8, 2, 4}, {15, 2, 4}, {16, 2, 5}, {21, 3, 5}, {32, 2, 6}, {63, 2, 6},
            {64, 2, 7}, {85, 3, 7}, {128, 2, 8}, {73, 7, 8}, {128, 4, 9}, {93, 11, 9}, {128, 8, 10}, {89, 23, 10}, {128, 16, 11},
            {195, 21, 11}, {128, 32, 12}, {195, 42, 12}, {128, 64, 13}, {129, 127, 13}, {128, 128, 14}, {181, 181, 14}, {194, 169, 15},
            {200, 200, 15}};
        for (int[] s : sides) {
            CrumpledSheet x = with("breaks 0", s[0], s[1], 0);
            for (int k = 0; k < 16; k++) due(s[0] + " by " + s[1] + ", class " + k, x.classes(0, k), k == s[2] ? 1 : 0);
        }
        int[][] narrow = {{1, 0}, {2, 1}, {3, 1}, {4, 2}, {7, 2}, {8, 3}, {15, 3}, {16, 4}, {31, 4}, {127, 6}, {128, 7}};
        for (int[] n : narrow) {
            CrumpledSheet x = with("breaks 0", 2, n[0] + 1, 0);
            x.fold(0, 0, 1);
            x.fold(0, 1, n[0]);
            due("1 by " + n[0], x.classes(0, n[1]), n[1] == 0 ? 4 : 2);
            due("1 by 1", x.classes(0, 0), n[1] == 0 ? 4 : 2);
        }
    }

    private static void apartness() {
        sentence(22, "APART; NONE without these (unlike)");
        limits("sheet", 1, 1, sheet -> twoHalved().apart(sheet, 0));
        limits("other", 1, 1, other -> twoHalved().apart(0, other));
        due("itself", twoHalved().apart(1, 1), NONE);
        sentence(22, "of all CLASSES the differences, without sign, together");
        CrumpledSheet x = with("breaks 0", 200, 200, 0);
        x.sheet(200, 200, 0, 0);
        due("alike", x.apart(0, 1), 0);
        x.sheet(2, 2, 0, 0);
        due("the last CLASS counts", x.apart(0, 2), 2);
        for (int i = 1; i < 200; i++) x.fold(0, 0, i);
        due("all 200 FACETS", x.apart(0, 1), 201);
        due("both ways alike", x.apart(1, 0), 201);
        x.fold(2, 0, 1);
        x.fold(2, 1, 1);
        x.sheet(2, 2, 0, 0);
        due("the first CLASS counts", x.apart(2, 3), 5);
    }

    private static void likestOfSeveral() {
        sentence(23, "LIKEST; -2: there is no other one; NONE without it");
        due("alone", halved(1).likest(0), NOT_THERE);
        due("without any", new CrumpledSheet().likest(0), NONE);
        limits("likest", 0, 1, sheet -> twoHalved().likest(sheet));
        due("of two the other one", twoHalved().likest(0), 1);
        due("of two the other one", twoHalved().likest(1), 0);
        sentence(23, "the other SHEET with the least APART, of several the least");
        IntFunction<CrumpledSheet> six = other -> {
            CrumpledSheet x = with("breaks 0", 8, 4, 0);
            for (int i = 1; i < 6; i++) x.sheet(i == other ? 4 : 50, i == other ? 8 : 50, 0, 0);
            return x;
        };
        for (int other = 1; other < 6; other++) {
            due("the one alike of six", six.apply(other).likest(0), other);
            due("the one alike of six", six.apply(other).likest(other), 0);
            due("several are as like", six.apply(other).likest(other == 1 ? 2 : 1), other == 1 ? 3 : other == 2 ? 3 : 2);
        }
        due("all as far", six.apply(0).likest(0), 1);
    }
}
