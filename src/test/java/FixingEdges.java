/** The boundaries of fixings: BOUNDS, and promises 21 to 29. See EDGES.md. */
final class FixingEdges extends Bench {
    private FixingEdges() {
    }

    // ---- BOUNDS

    static void fixedPartWithEqualPairs() {
        AssignmentWorkbench x = sized(1);
        x.set(FLOW, 0, 0, 3);
        x.set(DISTANCE, 0, 0, 5);
        x.set(COST, 0, 0, 4);
        same("no pair", 0, x.fixedCost());
        x.fix(0, 0);
        same("one pair with itself", 19, x.fixedCost());
        AssignmentWorkbench y = small();
        same("no pair of three", 0, y.fixedCost());
        y.fix(0, 0);
        // 1 * 1 + 0
        same("one pair of three", 1, y.fixedCost());
        y.fix(1, 2);
        // and 2 * 2 + 3 * 5 + 0 * 0 + 0
        same("two pairs, either way", 20, y.fixedCost());
        y.fix(2, 1);
        same("all pairs: the cost of an assignment", 35, y.fixedCost());
        AssignmentWorkbench z = sized(6);
        greatest(z);
        for (int i = 0; i < 6; i++) {
            z.fix(i, i);
        }
        same("the greatest", 353430, z.fixedCost());
    }

    static void entryHasItsOwnCost() {
        AssignmentWorkbench x = sized(1);
        same("nothing", 0, x.entry(0, 0));
        x.set(COST, 0, 0, 7);
        same("the cost", 7, x.entry(0, 0));
        x.set(FLOW, 0, 0, 3);
        same("no distance", 7, x.entry(0, 0));
        x.set(DISTANCE, 0, 0, 5);
        same("the flow over the distance", 22, x.entry(0, 0));
        AssignmentWorkbench y = sized(2);
        y.set(FLOW, 0, 0, 3);
        y.set(DISTANCE, 1, 1, 5);
        y.set(COST, 0, 1, 7);
        same("the location's own distance", 22, y.entry(0, 1));
        same("another location's", 0, y.entry(0, 0));
        same("another facility's flow", 0, y.entry(1, 1));
    }

    static void entryHasAllPairsEitherWay() {
        AssignmentWorkbench x = new AssignmentWorkbench();
        table(x, FLOW, new int[][] {{0, 2, 0}, {3, 0, 0}, {0, 0, 0}});
        table(x, DISTANCE, new int[][] {{0, 6, 5}, {8, 0, 0}, {7, 0, 0}});
        x.fix(1, 2);
        // 2 * 5 + 3 * 7
        same("one pair", 31, x.entry(0, 0));
        x.set(FLOW, 0, 2, 1);
        x.set(FLOW, 2, 0, 4);
        x.fix(2, 1);
        // and 1 * 6 + 4 * 8
        same("two pairs", 69, x.entry(0, 0));
        x.free(1);
        // 1 * 6 + 4 * 8, and the flow 2 with the distance 5
        same("the other pair", 48, x.entry(0, 0));
        x.free(2);
        // the flows 1 and 2 with the distances 6 and 5: none of the flows to 0
        same("no pair", 16, x.entry(0, 0));
    }

    static void leastProductOfTheOthers() {
        AssignmentWorkbench x = sized(4);
        table(x, FLOW, new int[][] {{50, 3, 1, 2}});
        table(x, DISTANCE, new int[][] {{40, 10, 30, 20}});
        // 1 * 30 + 2 * 20 + 3 * 10, and 50 * 40 of its own
        same("three flows and distances", 2100, x.entry(0, 0));
        // the distances of the other locations are 0
        same("another row of distances", 0, x.entry(0, 1));
        same("another row of flows", 0, x.entry(1, 0));
        x.set(DISTANCE, 0, 3, 30);
        // 1 * 30 + 2 * 30 + 3 * 10
        same("equal distances", 2120, x.entry(0, 0));
        x.set(FLOW, 0, 2, 3);
        // 2 * 30 + 3 * 30 + 3 * 10
        same("equal flows", 2180, x.entry(0, 0));
        x.fix(1, 2);
        // The pair: 3 * 30; the flows 2 and 3 with the distances 30 and 10
        same("two free ones beside it", 2180, x.entry(0, 0));
        x.fix(2, 3);
        // The pairs: 3 * 30 + 3 * 30; the flow 2 with the distance 10
        same("one free one beside it", 2200, x.entry(0, 0));
        x.fix(3, 1);
        // The pairs: 3 * 30 + 3 * 30 + 2 * 10
        same("none beside it", 2200, x.entry(0, 0));
        AssignmentWorkbench y = sized(6);
        table(y, FLOW, new int[][] {{0, 5, 4, 3, 2, 1}});
        table(y, DISTANCE, new int[][] {{0, 1, 2, 3, 4, 5}});
        // 1 * 5 + 2 * 4 + 3 * 3 + 4 * 2 + 5 * 1
        same("five of each", 35, y.entry(0, 0));
        y.fix(5, 5);
        // The pair: 1 * 5; 2 * 4 + 3 * 3 + 4 * 2 + 5 * 1
        same("without the least flow and the greatest distance", 35, y.entry(0, 0));
        y.fix(1, 1);
        // The pairs: 1 * 5 + 5 * 1; 2 * 4 + 3 * 3 + 4 * 2
        same("without the greatest flow and the least distance", 35, y.entry(0, 0));
        y.fix(4, 2);
        // The pairs: 1 * 5 + 5 * 1 + 2 * 2; 3 * 4 + 4 * 3
        same("without two of each end, as they are paired", 38, y.entry(0, 0));
    }

    static void boundIsTheLeastSumAndNothingIfM0() {
        AssignmentWorkbench x = costs(row(5, 9, 9), row(0, 1, 3), row(9, 4, 9));
        // 5 + 3 + 4; the least entries, 5 + 0 + 4, have the location 0 twice.
        same("three different locations", 12, x.bound());
        x.fix(2, 2);
        // 9, and 5 + 1
        same("two different locations", 15, x.bound());
        x.set(COST, 0, 1, 6);
        // 6 + 0
        same("an equal sum the other way", 15, x.bound());
        x.set(COST, 0, 1, 5);
        same("one less the other way", 14, x.bound());
        x.fix(1, 1);
        same("m is 1", 15, x.bound());
        x.fix(0, 0);
        same("m is 0: the fixed part alone", 15, x.bound());
        x.set(COST, 0, 0, 6);
        same("one more of the fixed part", 16, x.bound());
        AssignmentWorkbench y = sized(1);
        same("one facility", 0, y.bound());
        y.set(COST, 0, 0, 1);
        same("its entry", 1, y.bound());
        y.fix(0, 0);
        same("its pair", 1, y.bound());
    }

    static void noneThatAgreesCostsLess() {
        AssignmentWorkbench x = five();
        for (int free = 5; free >= 0; free--) {
            int bound = x.bound();
            same("within one less than the bound", 0, x.within(bound - 1));
            Check.holds("the bound is at most the optimum", bound <= x.optimum());
            if (free <= 2) {
                same("with two free facilities it is the optimum", x.optimum(), bound);
                Check.holds("within the bound", x.within(bound) > 0);
            }
            if (free > 0) {
                x.fix(5 - free, 5 - free);
            }
        }
        AssignmentWorkbench y = sized(6);
        greatest(y);
        same("the greatest bound is the cost of all", 353430, y.bound());
        same("none costs less", 0, y.within(353429));
    }

    static void regretOfEqualEntriesAndIfM1() {
        AssignmentWorkbench x = costs(row(5, 9, 7), row(0, 0, 0), row(0, 0, 0));
        same("the second smallest of three", 2, x.regret(0));
        x.set(COST, 0, 2, 6);
        same("one more than the smallest", 1, x.regret(0));
        x.set(COST, 0, 2, 5);
        same("equal to the smallest", 0, x.regret(0));
        x.set(COST, 0, 2, 4);
        same("one less: the smallest", 1, x.regret(0));
        x.set(COST, 0, 1, 4);
        same("two equal ones below the third", 0, x.regret(0));
        x.set(COST, 0, 0, 4);
        same("three equal ones", 0, x.regret(0));
        x.set(COST, 0, 1, 99);
        x.fix(1, 2);
        same("m is 2: the greater minus the smaller", 95, x.regret(0));
        x.fix(2, 1);
        same("m is 1", 1000000, x.regret(0));
        x.fix(0, 0);
        state("m is 0", x, () -> x.regret(0));
        same("m is 1, n too", 1000000, sized(1).regret(0));
    }

    // ---- promise 21: fix

    static void fixIsUndoable() {
        AssignmentWorkbench x = small();
        undoable("the first pair", x, () -> x.fix(0, 2));
        x.fix(0, 2);
        x.fix(1, 1);
        undoable("the last pair", x, () -> x.fix(2, 0));
    }

    static void fixTakesEachFacility() {
        for (int n : new int[] {1, 2, 6}) {
            AssignmentWorkbench x = sized(n);
            for (int i = 0; i < n; i++) {
                same("fix", i + 1, x.fix(i, n - 1 - i));
                same("fixed then", n - 1 - i, x.fixed(i));
            }
            AssignmentWorkbench y = sized(n);
            index("before the first", y, () -> y.fix(-1, 0));
            index("behind the last", y, () -> y.fix(n, 0));
        }
    }

    static void fixTakesEachLocation() {
        for (int n : new int[] {1, 2, 6}) {
            AssignmentWorkbench x = sized(n);
            for (int k = 0; k < n; k++) {
                same("fix", k + 1, x.fix(n - 1 - k, k));
                same("fixed then", k, x.fixed(n - 1 - k));
            }
            AssignmentWorkbench y = sized(n);
            index("before the first", y, () -> y.fix(0, -1));
            index("behind the last", y, () -> y.fix(0, n));
        }
    }

    static void fixAnswersHowManyPairs() {
        AssignmentWorkbench x = sized(6);
        for (int i = 0; i < 6; i++) {
            same("fix", i + 1, x.fix(i, i));
        }
        x.free(3);
        same("fix after free", 6, x.fix(3, 3));
        same("the only one", 1, sized(1).fix(0, 0));
    }

    static void fixThrowsIndex() {
        for (int n : new int[] {1, 3, 6}) {
            AssignmentWorkbench x = sized(n);
            range("facility", Check.INDEX, x, 0, n - 1, v -> x.fix(v, 0) + x.undo());
            range("location", Check.INDEX, x, 0, n - 1, v -> x.fix(n - 1, v) + x.undo());
        }
    }

    static void fixThrowsIfFixed() {
        AssignmentWorkbench x = small();
        x.fix(1, 2);
        state("the facility is fixed", x, () -> x.fix(1, 0));
        state("the location is fixed", x, () -> x.fix(0, 2));
        state("both are fixed", x, () -> x.fix(1, 2));
        takes("neither is fixed", () -> x.fix(0, 0));
        state("each is fixed, in another pair", x, () -> x.fix(0, 2));
        takes("the last ones", () -> x.fix(2, 1));
        state("all are fixed", x, () -> x.fix(2, 1));
    }

    // ---- promise 22: free

    static void freeIsUndoable() {
        AssignmentWorkbench x = small();
        x.fix(0, 2);
        undoable("the only pair", x, () -> x.free(0));
        x.fix(1, 1);
        x.fix(2, 0);
        undoable("one of three pairs", x, () -> x.free(2));
    }

    static void freeTakesEachFacility() {
        AssignmentWorkbench x = new AssignmentWorkbench();
        for (int i = 0; i < 3; i++) {
            x.fix(i, (i + 1) % 3);
        }
        same("the first", 1, x.free(0));
        same("the last", 0, x.free(2));
        same("the pair that is left", 2, x.fixed(1));
        same("the one in between", 2, x.free(1));
        same("none is left", 6, x.within(HIGH));
        index("before the first", x, () -> x.free(-1));
        index("behind the last", x, () -> x.free(3));
    }

    static void freeThrowsIndex() {
        for (int n : new int[] {1, 3, 6}) {
            AssignmentWorkbench x = sized(n);
            for (int i = 0; i < n; i++) {
                x.fix(i, i);
            }
            range("free", Check.INDEX, x, 0, n - 1, v -> x.free(v) + x.undo());
        }
    }

    static void freeThrowsIfFree() {
        AssignmentWorkbench x = small();
        state("none is fixed", x, () -> x.free(0));
        x.fix(1, 0);
        state("another one is fixed", x, () -> x.free(0));
        takes("it is fixed", () -> x.free(1));
        state("it was fixed", x, () -> x.free(1));
    }

    // ---- promise 23: fixed

    static void fixedTakesEachFacility() {
        AssignmentWorkbench x = sized(6);
        for (int i = 0; i < 6; i++) {
            x.fix(i, 5 - i);
        }
        for (int i = 0; i < 6; i++) {
            int facility = i;
            only("fixed(" + i + ")", x, 5 - i, () -> x.fixed(facility));
        }
        index("before the first", x, () -> x.fixed(-1));
        index("behind the last", x, () -> x.fixed(6));
    }

    static void fixedIsNoneIfFree() {
        AssignmentWorkbench x = new AssignmentWorkbench();
        only("never fixed", x, -1, () -> x.fixed(2));
        x.fix(2, 0);
        only("fixed to 0", x, 0, () -> x.fixed(2));
        only("another one is fixed", x, -1, () -> x.fixed(0));
        x.free(2);
        only("free again", x, -1, () -> x.fixed(2));
        x.undo();
        only("fixed again", x, 0, () -> x.fixed(2));
    }

    static void fixedThrowsIndex() {
        for (int n : new int[] {1, 3, 6}) {
            AssignmentWorkbench x = sized(n);
            range("fixed", Check.INDEX, x, 0, n - 1, x::fixed);
        }
    }

    // ---- promise 24: fixedCost

    static void fixedCostFrom0ToTheCost() {
        AssignmentWorkbench x = five();
        only("no pair", x, 0, x::fixedCost);
        for (int i = 0; i < 5; i++) {
            x.fix(i, i);
        }
        only("all pairs", x, x.cost(), x::fixedCost);
        x.free(4);
        Check.holds("all but one", x.fixedCost() < x.cost());
    }

    // ---- promise 25: entry

    static void entryTakesEachFacility() {
        AssignmentWorkbench x = costs(row(1, 2, 3), row(4, 5, 6), row(7, 8, 9));
        only("the first", x, 2, () -> x.entry(0, 1));
        only("the second", x, 5, () -> x.entry(1, 1));
        only("the last", x, 8, () -> x.entry(2, 1));
        index("before the first", x, () -> x.entry(-1, 1));
        index("behind the last", x, () -> x.entry(3, 1));
    }

    static void entryTakesEachLocation() {
        AssignmentWorkbench x = costs(row(1, 2, 3), row(4, 5, 6), row(7, 8, 9));
        only("the first", x, 4, () -> x.entry(1, 0));
        only("the second", x, 5, () -> x.entry(1, 1));
        only("the last", x, 6, () -> x.entry(1, 2));
        index("before the first", x, () -> x.entry(1, -1));
        index("behind the last", x, () -> x.entry(1, 3));
    }

    static void entryThrowsIndex() {
        for (int n : new int[] {1, 3, 6}) {
            AssignmentWorkbench x = sized(n);
            range("facility", Check.INDEX, x, 0, n - 1, v -> x.entry(v, n - 1));
            range("location", Check.INDEX, x, 0, n - 1, v -> x.entry(n - 1, v));
        }
    }

    static void entryThrowsIfFixed() {
        AssignmentWorkbench x = small();
        x.fix(1, 2);
        state("the facility is fixed", x, () -> x.entry(1, 0));
        state("the location is fixed", x, () -> x.entry(0, 2));
        state("both are fixed", x, () -> x.entry(1, 2));
        takes("neither is fixed", () -> x.entry(0, 0));
        x.free(1);
        takes("neither is fixed any more", () -> x.entry(1, 2));
    }

    // ---- promise 26: bound

    static void boundFromTheEmptyToTheWholeFixing() {
        AssignmentWorkbench x = five();
        only("the empty one", x, 399, x::bound);
        x.fix(2, 3);
        only("one pair", x, 419, x::bound);
        x.fix(0, 0);
        x.fix(1, 1);
        x.fix(3, 2);
        only("all but one", x, 460, x::bound);
        x.fix(4, 4);
        only("the whole one", x, 460, x::bound);
    }

    // ---- promise 27: boundWith

    static void boundWithTakesEachFacility() {
        AssignmentWorkbench x = costs(row(1, 2, 4), row(4, 6, 20), row(7, 30, 9));
        only("the first", x, 2 + 4 + 9, () -> x.boundWith(0, 1));
        only("the second", x, 6 + 1 + 9, () -> x.boundWith(1, 1));
        only("the last", x, 30 + 4 + 4, () -> x.boundWith(2, 1));
        index("before the first", x, () -> x.boundWith(-1, 1));
        index("behind the last", x, () -> x.boundWith(3, 1));
    }

    static void boundWithTakesEachLocation() {
        AssignmentWorkbench x = costs(row(1, 2, 4), row(4, 6, 20), row(7, 30, 9));
        only("the first", x, 4 + 2 + 9, () -> x.boundWith(1, 0));
        only("the second", x, 6 + 1 + 9, () -> x.boundWith(1, 1));
        only("the last", x, 20 + 2 + 7, () -> x.boundWith(1, 2));
        index("before the first", x, () -> x.boundWith(1, -1));
        index("behind the last", x, () -> x.boundWith(1, 3));
    }

    static void boundWithOneMorePair() {
        AssignmentWorkbench x = five();
        for (int i = 0; i < 5; i++) {
            int facility = i;
            int due = x.boundWith(i, 4 - i);
            only("the fixing stays", x, due, () -> x.boundWith(facility, 4 - facility));
            x.fix(i, 4 - i);
            same("the bound with the pair", due, x.bound());
        }
        same("with all pairs it is the cost", x.fixedCost(), x.bound());
    }

    static void boundWithThrowsIndex() {
        for (int n : new int[] {1, 3, 6}) {
            AssignmentWorkbench x = sized(n);
            range("facility", Check.INDEX, x, 0, n - 1, v -> x.boundWith(v, n - 1));
            range("location", Check.INDEX, x, 0, n - 1, v -> x.boundWith(n - 1, v));
        }
    }

    static void boundWithThrowsIfFixed() {
        AssignmentWorkbench x = small();
        x.fix(1, 2);
        state("the facility is fixed", x, () -> x.boundWith(1, 0));
        state("the location is fixed", x, () -> x.boundWith(0, 2));
        state("both are fixed", x, () -> x.boundWith(1, 2));
        takes("neither is fixed", () -> x.boundWith(0, 0));
        x.free(1);
        takes("neither is fixed any more", () -> x.boundWith(1, 2));
    }

    // ---- promise 28: regret

    static void regretTakesEachFacility() {
        AssignmentWorkbench x = costs(row(1, 2, 9), row(4, 7, 9), row(7, 9, 9));
        only("the first", x, 1, () -> x.regret(0));
        only("the second", x, 3, () -> x.regret(1));
        only("the last", x, 2, () -> x.regret(2));
        index("before the first", x, () -> x.regret(-1));
        index("behind the last", x, () -> x.regret(3));
    }

    static void regretThrowsIndex() {
        for (int n : new int[] {1, 3, 6}) {
            AssignmentWorkbench x = sized(n);
            range("regret", Check.INDEX, x, 0, n - 1, x::regret);
        }
    }

    static void regretThrowsIfFixed() {
        AssignmentWorkbench x = small();
        takes("none is fixed", () -> x.regret(1));
        x.fix(1, 0);
        state("it is fixed", x, () -> x.regret(1));
        takes("another one is fixed", () -> x.regret(0));
        x.fix(0, 1);
        takes("all others are fixed", () -> x.regret(2));
        x.fix(2, 2);
        state("all are fixed", x, () -> x.regret(2));
        x.free(1);
        takes("it is free again", () -> x.regret(1));
    }

    // ---- promise 29: branchOn

    static void branchOnTheLowestOfTheGreatest() {
        AssignmentWorkbench x = costs(row(0, 5, 9), row(0, 5, 5), row(0, 4, 4));
        only("of two the lower one", x, 0, x::branchOn);
        x.set(COST, 0, 1, 4);
        only("the lower one has one less", x, 1, x::branchOn);
        x.set(COST, 2, 1, 5);
        x.set(COST, 2, 2, 5);
        only("of two again", x, 1, x::branchOn);
        x.set(COST, 2, 1, 6);
        x.set(COST, 2, 2, 6);
        only("the last one has one more", x, 2, x::branchOn);
        x.fix(2, 2);
        only("of the free ones", x, 1, x::branchOn);
        AssignmentWorkbench y = new AssignmentWorkbench();
        only("all regrets are 0", y, 0, y::branchOn);
    }

    static void branchOnIsNoneIfAllAreFixed() {
        for (int n = 1; n <= 6; n++) {
            AssignmentWorkbench x = sized(n);
            for (int i = 0; i < n; i++) {
                only("some are free", x, i, x::branchOn);
                x.fix(i, i);
            }
            only("none is free", x, -1, x::branchOn);
            x.free(n - 1);
            only("one is free", x, n - 1, x::branchOn);
        }
    }
}
