/** The boundaries of symmetries and searches: promises 30 to 34, too. See EDGES.md. */
final class SearchEdges extends Bench {
    private SearchEdges() {
    }

    /**
     * The facility 0 is taken first, and paired with 0, 1 and 2 in this order. The bounds of
     * these children are 9, 14 and last.
     */
    private static AssignmentWorkbench three(int last) {
        return costs(row(0, 5, last), row(0, 0, 9), row(0, 0, 9));
    }

    /** As before among six: three more facilities cost 50 but at three more locations. */
    private static AssignmentWorkbench threeOfSix(int last) {
        return costs(row(0, 5, last, 50, 50, 50), row(0, 0, 9, 50, 50, 50),
                row(0, 0, 9, 50, 50, 50), row(50, 50, 50, 0, 0, 0), row(50, 50, 50, 0, 0, 0),
                row(50, 50, 50, 0, 0, 0));
    }

    /**
     * The facility 0 is taken first, and paired with 1, 0, 3 and 2 in this order. With a cost of
     * 0, 1 or 2 the bounds of the first three are 6, 6, 6, or 7, 7, 7, or 8, 7, 8; the least bound
     * of a child of 0 at 0 is 7.
     */
    private static AssignmentWorkbench four(int cost) {
        AssignmentWorkbench x = sized(4);
        table(x, FLOW, new int[][] {{0, 1, 1, 0}, {1, 0, 0, 0}, {1, 0, 0, 2}, {0, 0, 2, 0}});
        table(x, DISTANCE, new int[][] {{0, 0, 2, 1}, {0, 0, 2, 0}, {2, 2, 0, 3}, {1, 0, 3, 0}});
        table(x, COST, new int[][] {{0, 0, 0, 0}, {0, 0, 3, 0}, {0, 0, 0, 0}, {0, 5, cost, 0}});
        return x;
    }

    /**
     * Equal flows between the first five facilities, and none to the last one. All nodes with
     * less than four pairs have children here, so that all with four pairs are counted; and as
     * their bounds are costs, no more than the best one of them has children.
     */
    private static AssignmentWorkbench hardest() {
        AssignmentWorkbench x = sized(6);
        table(x, FLOW, new int[][] {{0, 1, 1, 1, 1}, {1, 0, 1, 1, 1}, {1, 1, 0, 1, 1},
            {1, 1, 1, 0, 1}, {1, 1, 1, 1, 0}});
        table(x, DISTANCE, new int[][] {{0, 0, 2, 0, 2, 1}, {0, 0, 1, 2, 1, 1},
            {2, 1, 0, 0, 0, 2}, {0, 2, 0, 0, 2, 1}, {2, 1, 0, 2, 0, 0}, {1, 1, 2, 1, 0, 0}});
        return x;
    }

    /** n facilities with flows and distances from 0 to 9, and no costs. */
    private static AssignmentWorkbench filled(int n, int start) {
        AssignmentWorkbench x = sized(n);
        x.fill(FLOW, start, 9, true);
        x.fill(DISTANCE, start + 1, 9, true);
        return x;
    }

    /** Searches, and checks how many nodes were counted, and found(0), found(1) and so on. */
    private static void search(AssignmentWorkbench x, boolean bestFirst, boolean symmetric,
            int... due) {
        same("the nodes counted", due[2], x.search(bestFirst, symmetric));
        results(x, due);
    }

    // ---- SYMMETRIES

    static void symmetryKeepsDistancesAndCosts() {
        same("one location", 1, sized(1).symmetries());
        same("all of six", 720, sized(6).symmetries());
        AssignmentWorkbench x = sized(2);
        int[][] cells = {{DISTANCE, 0, 1}, {DISTANCE, 1, 0}, {DISTANCE, 0, 0}, {DISTANCE, 1, 1},
            {COST, 0, 0}, {COST, 0, 1}, {COST, 1, 0}, {COST, 1, 1}};
        // The second of two cells makes the two locations equal again.
        for (int cell = 0; cell < cells.length; cell++) {
            x.set(cells[cell][0], cells[cell][1], cells[cell][2], 7);
            same("after cell " + cell, cell % 2 == 0 ? 1 : 2, x.symmetries());
        }
        x.set(COST, 1, 1, 8);
        same("one more", 1, x.symmetries());
        x.set(COST, 1, 1, 6);
        same("one less", 1, x.symmetries());
        x.set(COST, 1, 1, 7);
        x.fill(FLOW, 5, 99, false);
        same("flows do not matter", 2, x.symmetries());
        AssignmentWorkbench y = circle();
        same("a circle can be turned", 3, y.symmetries());
        for (int cell = 1; cell < 8; cell++) {
            int k = cell / 3;
            int l = cell % 3;
            int before = y.set(DISTANCE, k, l, 2);
            same("a circle with another distance " + cell, 1, y.symmetries());
            y.set(DISTANCE, k, l, before);
        }
    }

    static void symmetryKeepsEachLocationOfTheFixing() {
        AssignmentWorkbench x = sized(4);
        same("none", 24, x.symmetries());
        x.fix(1, 3);
        same("one", 6, x.symmetries());
        x.fix(0, 1);
        same("two", 2, x.symmetries());
        x.fix(3, 0);
        same("three", 1, x.symmetries());
        x.fix(2, 2);
        same("all", 1, x.symmetries());
        AssignmentWorkbench y = pairs();
        y.fix(3, 0);
        same("the other pair can change", 2, y.symmetries());
        y.fix(0, 3);
        same("no pair can change", 1, y.symmetries());
        y.free(3);
        same("the first pair can change", 2, y.symmetries());
    }

    static void alikeByOneOfTheSymmetries() {
        AssignmentWorkbench x = circle();
        same("a symmetry takes 1 to 0", 0, x.representative(1));
        same("another one takes 2 to 0", 0, x.representative(2));
        x.fix(0, 0);
        same("1 is free, but none takes it to 2", 1, x.representative(1));
        same("none takes 2 to 1", 2, x.representative(2));
        AssignmentWorkbench y = pairs();
        y.fix(0, 2);
        same("the pair that can change", 0, y.representative(1));
        same("no symmetry keeps 2 and takes 3 to 0", 3, y.representative(3));
        y.set(DISTANCE, 1, 0, 3);
        same("the pair that is not equal either way", 1, y.representative(1));
        y.free(0);
        same("its first is alike to itself", 0, y.representative(0));
        same("the other pair can change, still", 2, y.representative(3));
    }

    static void representativeIsTheLowestAlike() {
        // 0 and 2 are alike, and 1 and 3.
        AssignmentWorkbench x = sized(4);
        x.set(COST, 3, 0, 5);
        x.set(COST, 3, 2, 5);
        int[] due = {0, 1, 0, 1};
        for (int k = 0; k < 4; k++) {
            same("the representative of " + k, due[k], x.representative(k));
        }
        x.fix(1, 0);
        same("the lowest free one that is alike", 2, x.representative(2));
        same("the others stay alike", 1, x.representative(3));
        AssignmentWorkbench y = sized(6);
        for (int k = 0; k < 6; k++) {
            same("all of six are alike", 0, y.representative(k));
        }
        y.set(COST, 0, 0, 1);
        same("0 alone", 0, y.representative(0));
        for (int k = 1; k < 6; k++) {
            same("the others are alike", 1, y.representative(k));
        }
    }

    // ---- SEARCHES

    private static void leastThatAgrees(AssignmentWorkbench x, boolean bestFirst, boolean symmetric) {
        int n = x.size();
        x.search(bestFirst, symmetric);
        same("the best cost", x.optimum(), x.found(0));
        same("the cost of the best assignment", x.optimum(), x.choose(x.found(1)));
        for (int i = 0; i < n; i++) {
            if (x.fixed(i) != -1) {
                same("it agrees", x.fixed(i), x.location(i));
            }
        }
    }

    static void searchFindsTheLeastThatAgrees() {
        for (int pairs = 0; pairs <= 5; pairs++) {
            AssignmentWorkbench x = five();
            for (int i = 0; i < pairs; i++) {
                x.fix(i, (i + 2) % 5);
            }
            leastThatAgrees(x, false, false);
            leastThatAgrees(x, false, true);
            leastThatAgrees(x, true, false);
            leastThatAgrees(x, true, true);
        }
        AssignmentWorkbench y = pairs();
        leastThatAgrees(y, false, true);
        leastThatAgrees(y, true, true);
        leastThatAgrees(sized(1), false, false);
        leastThatAgrees(sized(6), true, true);
    }

    static void nodesContainTheFixing() {
        for (int pairs = 0; pairs <= 5; pairs++) {
            AssignmentWorkbench x = five();
            for (int i = 0; i < pairs; i++) {
                x.fix(i, i);
            }
            for (int kind = 0; kind < 2; kind++) {
                x.search(kind == 1, false);
                for (int fewer = 0; fewer < pairs; fewer++) {
                    same("nodes with fewer pairs", 0, x.nodes(fewer));
                }
                same("the fixing itself", 1, x.nodes(pairs));
                Check.holds("a whole assignment", x.nodes(5) > 0);
                same("no node with more", 0, x.nodes(6));
            }
        }
    }

    static void childrenIfMIsAbove0() {
        AssignmentWorkbench x = sized(2);
        x.search(false, false);
        counts(x, 1, 2, 1);
        x.fix(1, 1);
        x.search(false, false);
        counts(x, 0, 1, 1);
        x.fix(0, 0);
        x.search(false, false);
        counts(x, 0, 0, 1);
    }

    /** The child that is visited first ends in the best assignment of both. */
    static void childrenOfTheGreatestRegret() {
        // The regret of 0 is 2; 1 has one less, as much, or one more.
        AssignmentWorkbench x = costs(row(0, 2), row(0, 1));
        search(x, false, false, 1, 0, 4, 1, 1);
        x.set(COST, 1, 1, 2);
        search(x, false, false, 2, 0, 4, 1, 1);
        x.set(COST, 1, 1, 3);
        search(x, false, false, 2, 1, 4, 1, 1);
        search(sized(2), false, false, 0, 0, 4, 1, 1);
    }

    static void childrenByAscendingEntries() {
        // The entry of 0 at 0 is one less than that at 1, as much, or one more.
        AssignmentWorkbench x = costs(row(4, 5), row(0, 0));
        search(x, false, false, 4, 0, 4, 1, 1);
        search(x, true, false, 4, 0, 4, 1, 1);
        x.set(COST, 0, 0, 5);
        search(x, false, false, 5, 0, 4, 1, 1);
        search(x, true, false, 5, 0, 4, 1, 1);
        x.set(COST, 0, 0, 6);
        search(x, false, false, 5, 1, 4, 1, 1);
        search(x, true, false, 5, 1, 4, 1, 1);
    }

    static void childrenThatRepresent() {
        AssignmentWorkbench x = new AssignmentWorkbench();
        search(x, false, true, 0, 0, 4, 0, 1);
        counts(x, 1, 1, 1, 1);
        search(x, true, true, 0, 0, 4, 0, 1, 1);
        // 0 is alike to none then: it and 1 represent, and the second one is cut off.
        x.set(COST, 2, 0, 1);
        search(x, false, true, 0, 0, 5, 1, 1);
        // 0 and 2 are alike, and 1 and 3: 0 is paired with 0 and 1, which are not neighbours in order.
        AssignmentWorkbench z = costs(row(0, 1, 0, 1), row(0, 9, 0, 9), row(0, 9, 0, 9),
                row(0, 9, 0, 9));
        search(z, false, true, 10, 6, 12, 3, 2);
        // The first node of the circle has one child, and this one two, as no turn keeps 0.
        AssignmentWorkbench y = circle();
        search(y, false, true, 0, 0, 5, 1, 1);
        counts(y, 1, 1, 2, 1);
        search(y, true, true, 0, 0, 5, 1, 1, 2);
        // No turn keeps the location of the current fixing.
        y.fix(1, 2);
        search(y, false, true, 0, 1, 4, 1, 1);
        y.fix(0, 0);
        search(y, false, true, 0, 1, 2, 0, 1);
    }

    static void bestCostAtFirstAboveAllCosts() {
        for (int kind = 0; kind < 2; kind++) {
            AssignmentWorkbench x = sized(6);
            greatest(x);
            for (int i = 0; i < 4; i++) {
                x.fix(i, i);
            }
            search(x, kind == 1, false, 353430, 0, 4, 1, 1);
            x.set(COST, 5, 5, 98);
            search(x, kind == 1, false, 353429, 0, 4, 1, 1);
        }
    }

    static void depthFirstVisitCounts() {
        AssignmentWorkbench x = new AssignmentWorkbench();
        // Nodes that are cut off count, too: two with one pair, and one with two.
        search(x, false, false, 0, 0, 7, 3, 1, 0, 3);
        counts(x, 1, 3, 2, 1);
        for (int pairs = 0; pairs <= 3; pairs++) {
            int sum = 0;
            for (int k = 0; k < 7; k++) {
                sum += x.nodes(k);
            }
            same("all nodes", sum, x.found(2));
            if (pairs < 3) {
                x.fix(pairs, pairs);
            }
            x.search(false, false);
        }
        search(x, false, false, 0, 0, 1, 0, 1, 0, 3);
    }

    static void depthFirstCutsOffEqualBounds() {
        // The best cost is 9 when the child with the bound 8, 9 or 10 is visited.
        search(three(8), false, false, 8, 4, 10, 3, 2);
        search(three(9), false, false, 9, 0, 7, 3, 1);
        search(three(10), false, false, 9, 0, 7, 3, 1);
    }

    static void depthFirstLeafBecomesTheBest() {
        AssignmentWorkbench x = three(8);
        x.search(false, false);
        results(x, 8, 4, 10, 3, 2);
        counts(x, 1, 3, 4, 2);
        x.fix(1, 0);
        x.fix(2, 1);
        search(x, false, false, 8, 4, 2, 0, 1);
        x.fix(0, 2);
        search(x, false, false, 8, 4, 1, 0, 1);
        AssignmentWorkbench y = sized(1);
        y.set(FLOW, 0, 0, 3);
        y.set(DISTANCE, 0, 0, 5);
        y.set(COST, 0, 0, 4);
        search(y, false, false, 19, 0, 2, 0, 1);
    }

    static void depthFirstChildrenInTheirOrder() {
        // The locations 2, 0, 1 of 0; the cost is 3 at once, and 3 and 4 are cut off.
        AssignmentWorkbench x = costs(row(4, 5, 3), row(0, 0, 0), row(0, 0, 0));
        search(x, false, false, 3, 4, 7, 3, 1);
        // All costs are equal: the first child of each node comes first.
        search(new AssignmentWorkbench(), false, false, 0, 0, 7, 3, 1);
        AssignmentWorkbench y = costs(row(2, 0), row(2, 0));
        search(y, false, false, 2, 1, 4, 1, 1);
        search(five(), false, false, 439, 9, 40, 23, 3, 0, 5);
        AssignmentWorkbench z = hardest();
        search(z, false, false, 20, 6, 520, 360, 1, 0, 6);
    }

    static void depthFirstVisitsTheFixing() {
        AssignmentWorkbench x = three(8);
        x.search(false, false);
        same("the empty fixing", 1, x.nodes(0));
        x.fix(0, 0);
        search(x, false, false, 9, 0, 4, 1, 1);
        counts(x, 0, 1, 2, 1);
        x.fix(1, 1);
        x.fix(2, 2);
        search(x, false, false, 9, 0, 1, 0, 1);
        counts(x, 0, 0, 0, 1);
    }

    static void listAtFirstTheFixing() {
        AssignmentWorkbench x = new AssignmentWorkbench();
        // The three children, then two for the first of them, and one for the first of these.
        search(x, true, false, 0, 0, 7, 3, 1, 4, 3);
        x.fix(2, 2);
        search(x, true, false, 0, 0, 4, 1, 1, 2, 3);
        x.fix(1, 1);
        search(x, true, false, 0, 0, 2, 0, 1, 1, 3);
        x.fix(0, 0);
        search(x, true, false, 0, 0, 1, 0, 1, 1, 3);
    }

    static void bestFirstTakesLeastBoundThenLeastMThenFirst() {
        // Three of one pair go before the one of two pairs with one more; one of them with as much.
        search(four(0), true, false, 7, 2, 17, 10, 1, 11, 4);
        search(four(1), true, false, 7, 2, 14, 8, 1, 9, 4);
        search(four(2), true, false, 7, 2, 11, 6, 1, 7, 4);
        // The third child has a lower bound than the first, the same one, or a greater one.
        search(three(8), true, false, 8, 4, 7, 3, 1, 4, 3);
        search(three(9), true, false, 9, 0, 7, 3, 1, 4, 3);
        search(three(10), true, false, 9, 0, 7, 3, 1, 4, 3);
        search(threeOfSix(8), true, false, 8, 240, 22, 15, 1, 16, 6);
        search(threeOfSix(9), true, false, 9, 0, 22, 15, 1, 16, 6);
        search(threeOfSix(10), true, false, 9, 0, 22, 15, 1, 16, 6);
        // All bounds are 0: the least m goes before what came first.
        AssignmentWorkbench x = new AssignmentWorkbench();
        x.search(true, false);
        counts(x, 1, 3, 2, 1);
        AssignmentWorkbench y = sized(6);
        y.search(true, false);
        counts(y, 1, 6, 5, 4, 3, 2, 1);
        search(five(), true, false, 439, 9, 31, 21, 1, 22, 5);
        AssignmentWorkbench z = hardest();
        search(z, true, false, 20, 98, 520, 360, 1, 361, 6);
        counts(z, 1, 6, 30, 120, 360, 2, 1);
        search(filled(4, 12), true, false, 116, 10, 17, 10, 1, 11, 4);
        search(filled(4, 36), true, false, 154, 7, 14, 8, 1, 9, 4);
        search(filled(5, 46), true, false, 368, 32, 30, 20, 1, 21, 5);
        // The last facility is taken first, and goes to the first location.
        AssignmentWorkbench w = sized(6);
        for (int k = 0; k < 6; k++) {
            w.set(COST, 5, k, 9 * k);
        }
        search(w, true, false, 0, 153, 22, 15, 1, 16, 6);
    }

    static void bestFirstCutsOffEqualBounds() {
        // The best cost is 9; of the bounds that are left one is 9 or 10, and one is 9.
        AssignmentWorkbench x = three(9);
        search(x, true, false, 9, 0, 7, 3, 1);
        counts(x, 1, 3, 2, 1);
        search(three(10), true, false, 9, 0, 7, 3, 1);
        // One less, and it is not cut off: it is the best one.
        search(three(8), true, false, 8, 4, 7, 3, 1);
        AssignmentWorkbench y = sized(1);
        search(y, true, false, 0, 0, 2, 0, 1);
    }

    static void bestFirstLeafBecomesTheBest() {
        AssignmentWorkbench x = three(8);
        search(x, true, false, 8, 4, 7, 3, 1);
        x.fix(1, 0);
        x.fix(2, 1);
        search(x, true, false, 8, 4, 2, 0, 1, 1);
        x.fix(0, 2);
        search(x, true, false, 8, 4, 1, 0, 1, 1);
        AssignmentWorkbench y = sized(1);
        greatest(y);
        search(y, true, false, 9900, 0, 2, 0, 1, 1, 1);
    }

    static void bestFirstChildrenInTheirOrder() {
        // Both children of 0 have the bound 2; the one at 1 has the lower entry.
        AssignmentWorkbench x = costs(row(2, 0), row(2, 0));
        search(x, true, false, 2, 1, 4, 1, 1, 2);
        // The entries of 0 are equal, too, and so are those of 1: the lowest location.
        search(sized(2), true, false, 0, 0, 4, 1, 1, 2);
        // One more at 1: the facility 1 is taken, and its child at 0 comes first.
        AssignmentWorkbench y = costs(row(0, 0), row(0, 1));
        search(y, true, false, 0, 1, 4, 1, 1, 2);
    }

    // ---- promise 30: symmetries

    static void symmetriesAtLeast1() {
        AssignmentWorkbench x = five();
        only("the one that changes nothing", x, 1, x::symmetries);
        AssignmentWorkbench y = sized(2);
        only("one more", y, 2, y::symmetries);
        for (int n = 1; n <= 6; n++) {
            AssignmentWorkbench z = sized(n);
            only("all of " + n, z, COUNTS[n], z::symmetries);
            for (int i = 0; i < n; i++) {
                z.fix(i, i);
            }
            only("all locations are fixed", z, 1, z::symmetries);
        }
    }

    // ---- promise 31: representative

    static void representativeTakesEachLocation() {
        AssignmentWorkbench x = sized(4);
        x.set(COST, 0, 1, 3);
        x.set(COST, 0, 3, 3);
        int[] due = {0, 1, 0, 1};
        for (int k = 0; k < 4; k++) {
            int location = k;
            only("representative(" + k + ")", x, due[k], () -> x.representative(location));
        }
        index("before the first", x, () -> x.representative(-1));
        index("behind the last", x, () -> x.representative(4));
    }

    static void representativeOfAFixedOneIsItself() {
        AssignmentWorkbench x = new AssignmentWorkbench();
        only("a free one", x, 0, () -> x.representative(2));
        x.fix(0, 2);
        only("the fixed one", x, 2, () -> x.representative(2));
        only("another one", x, 0, () -> x.representative(1));
        x.fix(1, 0);
        only("the fixed one still", x, 2, () -> x.representative(2));
        only("the free one that is left", x, 1, () -> x.representative(1));
        x.fix(2, 1);
        for (int k = 0; k < 3; k++) {
            int location = k;
            only("all are fixed", x, k, () -> x.representative(location));
        }
    }

    static void representativeThrowsIndex() {
        for (int n : new int[] {1, 3, 6}) {
            AssignmentWorkbench x = sized(n);
            range("representative", Check.INDEX, x, 0, n - 1, x::representative);
        }
    }

    // ---- promise 32: search

    static void searchResultsStayUntilTheNext() {
        AssignmentWorkbench x = three(8);
        x.choose(3);
        only("none before", x, -1, () -> x.found(0));
        x.search(false, false);
        x.set(COST, 0, 0, 50);
        x.fix(0, 1);
        write(x, "c1 1 9;");
        x.run();
        x.undo();
        x.undo();
        results(x, 8, 4, 10, 3, 2, 0, 3);
        x.resize(2);
        results(x, 8, 4, 10, 3, 2, 0, 3);
        counts(x, 1, 3, 4, 2);
        x.search(true, false);
        results(x, 0, 0, 4, 1, 1, 2, 2);
        counts(x, 1, 2, 1);
        // Nothing of a search is left in the next one, however many there are.
        AssignmentWorkbench y = sized(6);
        for (int search = 1; search <= 300; search++) {
            same("search " + search, 22, y.search(true, false));
        }
        search(y, false, false, 0, 0, 22, 15, 1, 0, 6);
        counts(y, 1, 6, 5, 4, 3, 2, 1);
        y.resize(1);
        search(y, true, false, 0, 0, 2, 0, 1, 1, 1);
        counts(y, 1, 1);
    }

    static void searchKeepsTheAssignment() {
        AssignmentWorkbench x = three(8);
        x.choose(3);
        x.fix(1, 1);
        x.undo();
        for (int kind = 0; kind < 4; kind++) {
            x.search(kind % 2 == 1, kind / 2 == 1);
            places("the current assignment", x, 1, 2, 0);
            same("the fixing", -1, x.fixed(0));
        }
        same("no record is made", 4, x.undo());
        same("choose is undone", 0, x.number());
    }

    static void searchDepthFirstOrBestFirst() {
        AssignmentWorkbench x = three(8);
        same("depth first", 10, x.search(false, false));
        same("no list", 0, x.found(5));
        same("best first", 7, x.search(true, false));
        same("a list", 4, x.found(5));
        same("depth first again", 10, x.search(false, false));
        same("no list again", 0, x.found(5));
    }

    static void searchWithOrWithoutSymmetries() {
        AssignmentWorkbench x = new AssignmentWorkbench();
        same("depth first without", 7, x.search(false, false));
        same("depth first with them", 4, x.search(false, true));
        same("best first without", 7, x.search(true, false));
        same("best first with them", 4, x.search(true, true));
        AssignmentWorkbench y = five();
        same("there is one symmetry", y.search(false, false), y.search(false, true));
        same("there is one symmetry, best first", y.search(true, false), y.search(true, true));
    }

    static void searchAnswersTheNodesCounted() {
        AssignmentWorkbench x = three(9);
        same("all nodes", 7, x.search(false, false));
        same("found(2)", 7, x.found(2));
        x.fix(0, 0);
        same("those with a pair", 4, x.search(true, false));
        x.fix(1, 1);
        same("m is 1", 2, x.search(true, false));
        x.fix(2, 2);
        same("m is 0", 1, x.search(true, true));
        same("m is 0, depth first", 1, x.search(false, true));
        same("found(2)", 1, x.found(2));
    }

    // ---- promise 33: found

    static void foundTakesWhat0To6() {
        AssignmentWorkbench x = three(8);
        x.search(true, false);
        int[] due = {8, 4, 7, 3, 1, 4, 3};
        for (int what = 0; what < 7; what++) {
            int result = what;
            only("found(" + what + ")", x, due[what], () -> x.found(result));
        }
        argument("one less than 0", x, () -> x.found(-1));
        argument("one more than 6", x, () -> x.found(7));
        x.search(false, false);
        results(x, 8, 4, 10, 3, 2, 0, 3);
        AssignmentWorkbench y = sized(6);
        y.choose(719);
        y.search(true, true);
        results(y, 0, 0, 7, 0, 1, 1, 6);
        AssignmentWorkbench z = sized(1);
        z.search(true, false);
        results(z, 0, 0, 2, 0, 1, 1, 1);
        z.search(false, false);
        results(z, 0, 0, 2, 0, 1, 0, 1);
    }

    static void foundIsNoneWithoutASearch() {
        AssignmentWorkbench x = new AssignmentWorkbench();
        for (int what = 0; what < 7; what++) {
            int result = what;
            only("found(" + what + ")", x, -1, () -> x.found(result));
        }
        x.search(false, false);
        results(x, 0, 0, 7, 3, 1, 0, 3);
        same("another object has made none", -1, new AssignmentWorkbench().found(0));
    }

    static void foundThrowsArgument() {
        AssignmentWorkbench x = new AssignmentWorkbench();
        range("found before a search", Check.ARGUMENT, x, 0, 6, x::found);
        x.search(true, true);
        range("found", Check.ARGUMENT, x, 0, 6, x::found);
    }

    // ---- promise 34: nodes

    static void nodesTakesPairs0To6() {
        AssignmentWorkbench x = sized(6);
        x.search(true, false);
        for (int pairs = 0; pairs < 7; pairs++) {
            int count = pairs;
            only("nodes(" + pairs + ")", x, pairs == 0 ? 1 : 7 - pairs, () -> x.nodes(count));
        }
        argument("one less than 0", x, () -> x.nodes(-1));
        argument("one more than 6", x, () -> x.nodes(7));
        AssignmentWorkbench y = sized(1);
        y.search(false, false);
        counts(y, 1, 1);
        y.resize(6);
        counts(y, 1, 1);
    }

    static void nodesIsNoneWithoutASearch() {
        AssignmentWorkbench x = new AssignmentWorkbench();
        for (int pairs = 0; pairs < 7; pairs++) {
            int count = pairs;
            only("nodes(" + pairs + ")", x, -1, () -> x.nodes(count));
        }
        x.search(false, false);
        counts(x, 1, 3, 2, 1);
    }

    static void nodesThrowsArgument() {
        AssignmentWorkbench x = new AssignmentWorkbench();
        range("nodes before a search", Check.ARGUMENT, x, 0, 6, x::nodes);
        x.search(true, true);
        range("nodes", Check.ARGUMENT, x, 0, 6, x::nodes);
    }
}
