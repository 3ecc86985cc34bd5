/** The boundaries of assignments: EXCHANGES, and promises 7 to 20. See EDGES.md. */
final class AssignmentEdges extends Bench {
    private AssignmentEdges() {
    }

    // ---- EXCHANGES

    static void exchangeChangesPlaces() {
        AssignmentWorkbench x = new AssignmentWorkbench();
        x.choose(3);
        x.exchange(0, 2);
        places("the first and the last", x, 0, 2, 1);
        x.exchange(1, 0);
        places("the second and the first", x, 2, 0, 1);
        x.exchange(2, 2);
        places("one with itself", x, 2, 0, 1);
        AssignmentWorkbench y = sized(6);
        y.exchange(0, 5);
        places("the ends of six", y, 5, 1, 2, 3, 4, 0);
        AssignmentWorkbench z = sized(1);
        z.exchange(0, 0);
        same("the only one with itself", 0, z.location(0));
    }

    static void gainIsBeforeMinusAfter() {
        AssignmentWorkbench x = costs(row(1, 0), row(0, 0));
        same("one less after it", 1, x.gain(0, 1));
        x.set(COST, 1, 0, 1);
        same("equal after it", 0, x.gain(0, 1));
        x.set(COST, 0, 1, 1);
        same("one more after it", -1, x.gain(0, 1));
        AssignmentWorkbench y = small();
        for (int number = 0; number < 6; number++) {
            int before = y.choose(number);
            for (int pair = 0; pair < 9; pair++) {
                int gain = y.gain(pair / 3, pair % 3);
                same("exchange", gain, y.exchange(pair / 3, pair % 3));
                same("the gain of " + pair + " from " + number, before - y.cost(), gain);
                y.exchange(pair / 3, pair % 3);
            }
        }
        AssignmentWorkbench z = sized(6);
        for (int what = 0; what < 3; what++) {
            z.fill(what, 40 + what, 99, false);
        }
        for (int pair = 0; pair < 36; pair++) {
            int before = z.cost();
            int gain = z.gain(pair / 6, pair % 6);
            z.exchange(pair / 6, pair % 6);
            same("the gain of " + pair + " of six", before - z.cost(), gain);
        }
    }

    static void bestExchangeIsTheLowestOfTheGreatest() {
        // (0, 1) and (0, 2) gain 5, (1, 2) nothing.
        AssignmentWorkbench x = costs(row(5, 0, 0), row(0, 0, 0), row(0, 0, 0));
        same("of two the lower one", 1, x.bestExchange());
        x.set(COST, 0, 1, 1);
        same("the lower one gains one less", 2, x.bestExchange());
        x.set(COST, 0, 1, 0);
        x.set(COST, 0, 2, 1);
        same("the higher one gains one less", 1, x.bestExchange());
        // (0, 2) and (1, 2) gain 5.
        AssignmentWorkbench y = costs(row(0, 0, 0), row(0, 0, 0), row(0, 0, 5));
        same("the first facility counts first", 2, y.bestExchange());
        y.set(COST, 2, 0, 1);
        same("the greater gain", 12, y.bestExchange());
        // All pairs lose 2.
        AssignmentWorkbench z = costs(row(0, 1, 1), row(1, 0, 1), row(1, 1, 0));
        same("of equal losses the lowest one", 1, z.bestExchange());
        z.set(COST, 2, 1, 0);
        same("the least loss", 12, z.bestExchange());
        z.fix(1, 0);
        same("of the free ones alone", 2, z.bestExchange());
    }

    static void descentGoesOnAbove0() {
        AssignmentWorkbench x = costs(row(1, 0), row(0, 0));
        same("a gain of 1", 1, x.descend());
        same("it was made", 1, x.number());
        same("a gain of -1 then", 0, x.descend());
        AssignmentWorkbench y = costs(row(1, 0), row(1, 0));
        same("a gain of 0", 0, y.descend());
        same("it was not made", 0, y.number());
        y.set(COST, 1, 0, 2);
        same("a gain of -1", 0, y.descend());
        same("it was not made, either", 0, y.number());
        y.set(COST, 1, 1, 2);
        same("a gain of 1 again", 1, y.descend());
        // 36 at first; each exchange that puts one facility on its own cheap place gains 9.
        AssignmentWorkbench z = costs(row(9, 0, 9, 9), row(9, 9, 0, 9), row(9, 9, 9, 0),
                row(0, 9, 9, 9));
        same("again and again", 3, z.descend());
        places("the last of them gains 18", z, 1, 2, 3, 0);
        same("no gain is left", 0, z.descend());
    }

    // ---- promise 7: location

    static void locationTakesEachFacility() {
        AssignmentWorkbench x = sized(6);
        x.choose(719);
        for (int i = 0; i < 6; i++) {
            int facility = i;
            only("location(" + i + ")", x, 5 - i, () -> x.location(facility));
        }
        index("before the first", x, () -> x.location(-1));
        index("behind the last", x, () -> x.location(6));
    }

    static void locationThrowsIndex() {
        for (int n : new int[] {1, 3, 6}) {
            AssignmentWorkbench x = sized(n);
            range("location", Check.INDEX, x, 0, n - 1, x::location);
        }
    }

    // ---- promise 8: cost

    static void costFrom0ToTheGreatest() {
        AssignmentWorkbench x = sized(6);
        only("the least cost", x, 0, x::cost);
        greatest(x);
        // 36 * 99 * 99 + 6 * 99
        only("the greatest cost", x, 353430, x::cost);
        x.set(COST, 5, 5, 98);
        only("one less", x, 353429, x::cost);
        AssignmentWorkbench y = sized(1);
        greatest(y);
        only("the greatest cost of one facility", y, 9900, y::cost);
    }

    // ---- promise 9: choose

    static void chooseIsUndoable() {
        AssignmentWorkbench x = small();
        undoable("choose the last", x, () -> x.choose(5));
        undoable("choose the current one", x, () -> x.choose(0));
        x.choose(5);
        undoable("choose the first", x, () -> x.choose(0));
    }

    static void chooseTakesEachNumber() {
        for (int n = 1; n <= 6; n++) {
            AssignmentWorkbench x = sized(n);
            int last = COUNTS[n] - 1;
            same("choose the last", 0, x.choose(last));
            same("number then", last, x.number());
            index("one more", x, () -> x.choose(last + 1));
            same("choose the first", 0, x.choose(0));
            same("number then", 0, x.number());
            index("one less", x, () -> x.choose(-1));
        }
        AssignmentWorkbench y = small();
        int[] due = {34, 35, 58, 45, 47, 33};
        for (int number = 0; number < 6; number++) {
            same("the cost of " + number, due[number], y.choose(number));
        }
    }

    static void chooseThrowsIndex() {
        for (int n = 1; n <= 6; n++) {
            AssignmentWorkbench x = sized(n);
            range("choose", Check.INDEX, x, 0, COUNTS[n] - 1, x::choose);
        }
    }

    // ---- promise 10: number

    static void numberFrom0ToTheLast() {
        for (int n = 1; n <= 6; n++) {
            AssignmentWorkbench x = sized(n);
            only("the first number", x, 0, x::number);
            // Exchanges of the ends turn the first one round: it becomes the last one.
            for (int i = 0; i < n / 2; i++) {
                x.exchange(i, n - 1 - i);
            }
            only("the last number", x, COUNTS[n] - 1, x::number);
        }
        AssignmentWorkbench y = sized(6);
        y.exchange(4, 5);
        only("one more than the first", y, 1, y::number);
        y.choose(719);
        y.exchange(4, 5);
        only("one less than the last", y, 718, y::number);
    }

    // ---- promise 11: exchange

    static void exchangeIsUndoable() {
        AssignmentWorkbench x = small();
        undoable("exchange", x, () -> x.exchange(0, 2));
        undoable("exchange of one with itself", x, () -> x.exchange(1, 1));
    }

    static void exchangeTakesEachFirst() {
        for (int i = 0; i < 3; i++) {
            AssignmentWorkbench x = new AssignmentWorkbench();
            x.exchange(i, 1);
            same("its location", 1, x.location(i));
            same("the location of the other", i, x.location(1));
        }
        AssignmentWorkbench y = new AssignmentWorkbench();
        index("before the first", y, () -> y.exchange(-1, 1));
        index("behind the last", y, () -> y.exchange(3, 1));
    }

    static void exchangeTakesEachOther() {
        AssignmentWorkbench x = small();
        same("the same", 0, x.exchange(0, 0));
        places("the same", x, 0, 1, 2);
        same("the next one", 34 - 58, x.exchange(0, 1));
        same("back", 58 - 34, x.exchange(0, 1));
        same("the last one", 34 - 33, x.exchange(0, 2));
        places("the last one", x, 2, 1, 0);
        same("the last one with itself", 0, x.exchange(2, 2));
        index("before the first", x, () -> x.exchange(0, -1));
        index("behind the last", x, () -> x.exchange(0, 3));
    }

    static void exchangeThrowsIndex() {
        for (int n : new int[] {1, 3, 6}) {
            AssignmentWorkbench x = sized(n);
            range("one", Check.INDEX, x, 0, n - 1, v -> x.exchange(v, n - 1));
            range("other", Check.INDEX, x, 0, n - 1, v -> x.exchange(n - 1, v));
            index("both, and they are the same", x, () -> x.exchange(n, n));
        }
    }

    // ---- promise 12: gain

    static void gainChangesNothing() {
        AssignmentWorkbench x = small();
        only("a gain above 0", x, 1, () -> x.gain(0, 2));
        only("a gain below 0", x, -1, () -> x.gain(1, 2));
        only("a gain of 0", x, 0, () -> x.gain(0, 0));
        AssignmentWorkbench y = new AssignmentWorkbench();
        y.gain(0, 1);
        state("no record is made", y, y::undo);
    }

    static void gainTakesEachFirst() {
        AssignmentWorkbench x = small();
        int[] due = {34 - 33, 34 - 35, 0};
        for (int i = 0; i < 3; i++) {
            same("gain(" + i + ", 2)", due[i], x.gain(i, 2));
        }
        index("before the first", x, () -> x.gain(-1, 2));
        index("behind the last", x, () -> x.gain(3, 2));
    }

    static void gainTakesEachOther() {
        AssignmentWorkbench x = small();
        int[] due = {0, 34 - 58, 34 - 33};
        for (int j = 0; j < 3; j++) {
            same("gain(0, " + j + ")", due[j], x.gain(0, j));
        }
        index("before the first", x, () -> x.gain(0, -1));
        index("behind the last", x, () -> x.gain(0, 3));
    }

    static void gainThrowsIndex() {
        for (int n : new int[] {1, 3, 6}) {
            AssignmentWorkbench x = sized(n);
            range("one", Check.INDEX, x, 0, n - 1, v -> x.gain(v, n - 1));
            range("other", Check.INDEX, x, 0, n - 1, v -> x.gain(n - 1, v));
            index("both, and they are the same", x, () -> x.gain(-1, -1));
        }
    }

    // ---- promise 13: bestExchange

    static void bestExchangeOfTwoFreeFacilities() {
        for (int n = 1; n <= 6; n++) {
            AssignmentWorkbench x = sized(n);
            for (int free = n; free > 2; free--) {
                only("more than two are free", x, 1, x::bestExchange);
                x.fix(free - 1, free - 1);
            }
            if (n > 1) {
                only("two are free", x, 1, x::bestExchange);
                x.fix(1, 1);
            }
            only("one is free", x, -1, x::bestExchange);
            x.fix(0, 0);
            only("none is free", x, -1, x::bestExchange);
        }
        AssignmentWorkbench y = sized(6);
        for (int i = 0; i < 4; i++) {
            y.fix(i, i);
        }
        only("the last pair there is", y, 45, y::bestExchange);
    }

    // ---- promise 14: descend

    static void descendIsUndoable() {
        AssignmentWorkbench x = costs(row(1, 0), row(0, 0));
        undoable("descend with an exchange", x, x::descend);
        x.descend();
        undoable("descend without an exchange", x, x::descend);
        x.fix(0, 0);
        undoable("descend with one free facility", x, x::descend);
        x.fix(1, 1);
        undoable("descend with none", x, x::descend);
    }

    static void descendAnswersHowMany() {
        AssignmentWorkbench x = new AssignmentWorkbench();
        same("none", 0, x.descend());
        x.set(COST, 0, 0, 1);
        same("one", 1, x.descend());
        same("none is left", 0, x.descend());
        AssignmentWorkbench y = costs(row(9, 0, 9), row(9, 9, 0), row(0, 9, 9));
        same("two", 2, y.descend());
        AssignmentWorkbench z = costs(row(9, 0, 9), row(9, 9, 0), row(0, 9, 9));
        z.fix(2, 2);
        same("one with two free facilities", 1, z.descend());
        z.fix(0, 0);
        z.choose(0);
        same("none with one free facility", 0, z.descend());
        same("none with one facility", 0, sized(1).descend());
        AssignmentWorkbench v = costs(row(0, 0, 9), row(0, 0, 0), row(0, 0, 0));
        v.choose(5);
        v.fix(1, 1);
        v.fix(2, 0);
        same("none with one free facility that could have a cheaper place", 0, v.descend());
        places("the assignment stays", v, 2, 1, 0);
        // At the location 5 only the facility 4 costs nothing.
        AssignmentWorkbench w = sized(6);
        for (int i = 0; i < 6; i++) {
            w.set(COST, i, 5, i == 4 ? 0 : 1);
        }
        same("one of the last pair", 1, w.descend());
        places("the last pair", w, 0, 1, 2, 3, 5, 4);
    }

    // ---- promise 15: within

    static void withinCountsAtMostTheLimit() {
        // The costs, in order, are 34, 35, 58, 45, 47, 33.
        AssignmentWorkbench x = small();
        only("one below the least", x, 0, () -> x.within(32));
        only("the least", x, 1, () -> x.within(33));
        only("one above the least", x, 2, () -> x.within(34));
        only("one below the greatest", x, 5, () -> x.within(57));
        only("the greatest", x, 6, () -> x.within(58));
        only("one above the greatest", x, 6, () -> x.within(59));
        x.fix(0, 2);
        only("one below, with a fixing", x, 0, () -> x.within(32));
        only("the least, with a fixing", x, 1, () -> x.within(33));
        only("both, with a fixing", x, 2, () -> x.within(47));
    }

    static void withinTakesAnyLimit() {
        AssignmentWorkbench x = sized(6);
        only("LOW", x, 0, () -> x.within(LOW));
        only("-1", x, 0, () -> x.within(-1));
        only("0", x, 720, () -> x.within(0));
        only("1", x, 720, () -> x.within(1));
        only("HIGH", x, 720, () -> x.within(HIGH));
        x.fix(0, 0);
        only("-1 with a fixing", x, 0, () -> x.within(-1));
        only("HIGH with a fixing", x, 120, () -> x.within(HIGH));
    }

    // ---- promise 16: optimum

    static void optimumOfThoseThatAgree() {
        AssignmentWorkbench x = small();
        only("of all six", x, 33, x::optimum);
        x.fix(0, 0);
        only("of two", x, 34, x::optimum);
        x.fix(1, 2);
        only("of one, with one free facility", x, 35, x::optimum);
        x.fix(2, 1);
        only("of one, with none", x, 35, x::optimum);
        AssignmentWorkbench y = sized(6);
        only("the least there is", y, 0, y::optimum);
        greatest(y);
        only("the greatest there is", y, 353430, y::optimum);
    }

    // ---- promise 17: optima

    static void optimaFrom1ToAll() {
        for (int n = 1; n <= 6; n++) {
            AssignmentWorkbench x = sized(n);
            only("all of " + n, x, COUNTS[n], x::optima);
            x.set(COST, 0, 0, 1);
            int others = n == 1 ? 1 : COUNTS[n] - COUNTS[n - 1];
            only("without those that cost one more", x, others, x::optima);
            x.fix(0, 0);
            only("of those that agree", x, COUNTS[n - 1], x::optima);
        }
        AssignmentWorkbench y = small();
        only("one alone", y, 1, y::optima);
        y.fix(0, 2);
        y.fix(1, 1);
        y.fix(2, 0);
        only("the only one that agrees", y, 1, y::optima);
    }

    // ---- promise 18: optimal

    static void optimalTakesPositionsFrom0() {
        // Those with the facility 0 at 1 or 2 are optimal: 2, 3, 4, 5.
        AssignmentWorkbench x = costs(row(1, 0, 0), row(0, 0, 0), row(0, 0, 0));
        for (int k = 0; k < 4; k++) {
            int position = k;
            only("optimal(" + k + ")", x, 2 + k, () -> x.optimal(position));
        }
        only("one less than the first", x, -1, () -> x.optimal(-1));
        only("one more than the last", x, -1, () -> x.optimal(4));
    }

    static void optimalIsNoneWithoutSuchAPosition() {
        for (int n = 1; n <= 6; n++) {
            AssignmentWorkbench x = sized(n);
            int last = COUNTS[n] - 1;
            same("the last position", last, x.optimal(last));
            same("one more", -1, x.optimal(last + 1));
            same("one less than 0", -1, x.optimal(-1));
            same("HIGH", -1, x.optimal(HIGH));
            same("LOW", -1, x.optimal(LOW));
        }
        AssignmentWorkbench y = small();
        same("the only position", 5, y.optimal(0));
        same("none but it", -1, y.optimal(1));
        y.fix(0, 0);
        same("the only position with a fixing", 0, y.optimal(0));
        same("none but it with a fixing", -1, y.optimal(1));
    }

    // ---- promise 19: mean

    private static void mean(String what, AssignmentWorkbench x, int numerator, int denominator) {
        only(what + ", numerator", x, numerator, () -> x.mean(0));
        only(what + ", denominator", x, denominator, () -> x.mean(1));
    }

    static void meanInLowestTerms() {
        AssignmentWorkbench x = sized(6);
        mean("0", x, 0, 1);
        // 120 of 720 have the facility 0 at 0.
        x.set(COST, 0, 0, 1);
        mean("a sixth", x, 1, 6);
        x.set(COST, 0, 0, 5);
        mean("five sixths", x, 5, 6);
        x.set(COST, 0, 0, 6);
        mean("1", x, 1, 1);
        x.set(COST, 0, 0, 7);
        mean("seven sixths", x, 7, 6);
        x.set(COST, 0, 0, 9);
        mean("nine sixths", x, 3, 2);
        greatest(x);
        mean("the greatest", x, 353430, 1);
        // 34 + 35 + 58 + 45 + 47 + 33 = 252
        AssignmentWorkbench y = small();
        mean("42", y, 42, 1);
        y.fix(0, 0);
        mean("of two", y, 69, 2);
        y.fix(1, 1);
        mean("of one", y, 34, 1);
        mean("of one facility", sized(1), 0, 1);
    }

    static void meanTakesPart0And1() {
        AssignmentWorkbench x = small();
        x.fix(0, 0);
        only("0 is the numerator", x, 69, () -> x.mean(0));
        only("1 is the denominator", x, 2, () -> x.mean(1));
        argument("one less than 0", x, () -> x.mean(-1));
        argument("one more than 1", x, () -> x.mean(2));
    }

    static void meanThrowsArgument() {
        AssignmentWorkbench x = new AssignmentWorkbench();
        range("mean", Check.ARGUMENT, x, 0, 1, x::mean);
    }

    // ---- promise 20: localOptima

    static void localOptimaWithoutAGainAbove0() {
        AssignmentWorkbench x = sized(2);
        only("gains of 0", x, 2, x::localOptima);
        x.set(COST, 0, 0, 1);
        only("a gain of 1 and one of -1", x, 1, x::localOptima);
        x.set(COST, 0, 1, 1);
        only("gains of 0 again", x, 2, x::localOptima);
        x.set(COST, 1, 0, 1);
        only("a gain of -1 and one of 1", x, 1, x::localOptima);
        AssignmentWorkbench y = costs(row(1, 0, 0), row(0, 0, 0), row(0, 0, 0));
        only("of all six", y, 4, y::localOptima);
        y.fix(0, 0);
        only("a fixed facility is not exchanged", y, 2, y::localOptima);
        y.set(COST, 1, 1, 1);
        only("two are free", y, 1, y::localOptima);
        y.fix(1, 1);
        only("one is free", y, 1, y::localOptima);
        y.fix(2, 2);
        only("none is free", y, 1, y::localOptima);
        AssignmentWorkbench z = costs(row(1, 0), row(0, 0));
        z.fix(1, 1);
        only("the higher one of a pair is fixed", z, 1, z::localOptima);
        z.free(1);
        z.fix(0, 0);
        only("the lower one of a pair is fixed", z, 1, z::localOptima);
        AssignmentWorkbench w = sized(6);
        only("all of six facilities", w, 720, w::localOptima);
    }
}
