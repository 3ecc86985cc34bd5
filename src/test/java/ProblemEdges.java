/** The boundaries of the problem: THE PROBLEM, and promises 1 to 6. See EDGES.md. */
final class ProblemEdges extends Bench {
    private ProblemEdges() {
    }

    // ---- what it is, the constants

    static void callsUpTo512() {
        AssignmentWorkbench x = new AssignmentWorkbench();
        for (int call = 1; call <= 509; call++) {
            same("call " + call, (call - 1) % 100, x.set(COST, 0, 0, call % 100));
        }
        same("call 510", 9, x.cost());
        same("call 511, the last but one", 5, x.undo());
        same("call 512, the last one", 8, x.cost());
    }

    static void noneIsMinus1() {
        AssignmentWorkbench x = new AssignmentWorkbench();
        same("NONE", -1, AssignmentWorkbench.NONE);
        same("an answer of NONE", -1, x.optimal(6));
        same("no NONE one step before", 5, x.optimal(5));
    }

    // ---- THE PROBLEM

    static void nFrom1To6AtFirst3() {
        AssignmentWorkbench x = new AssignmentWorkbench();
        same("n at first", 3, x.size());
        same("the last facility at first", 2, x.location(2));
        index("a facility behind it", x, () -> x.location(3));
        same("resize to the least n", 3, x.resize(1));
        argument("resize to one less", x, () -> x.resize(0));
        same("resize to the greatest n", 1, x.resize(6));
        argument("resize to one more", x, () -> x.resize(7));
        for (int n = 1; n <= 6; n++) {
            AssignmentWorkbench y = sized(n);
            same("size", n, y.size());
            range("a facility of " + n, Check.INDEX, y, 0, n - 1, v -> y.get(COST, v, 0));
            range("a location of " + n, Check.INDEX, y, 0, n - 1, v -> y.get(COST, 0, v));
        }
    }

    static void numbersFrom0To99AtFirst0() {
        for (int table = 0; table < 3; table++) {
            int what = table;
            AssignmentWorkbench x = new AssignmentWorkbench();
            for (int cell = 0; cell < 9; cell++) {
                same("a number at first", 0, x.get(what, cell / 3, cell % 3));
            }
            range("a number", Check.ARGUMENT, x, 0, 99, v -> x.set(what, 1, 2, v));
            same("the greatest number stands", 99, x.get(what, 1, 2));
            same("the one with exchanged indices is another", 0, x.get(what, 2, 1));
            x.set(what, 1, 2, 0);
            same("the least number stands", 0, x.get(what, 1, 2));
            takes("fill up to the greatest number", () -> x.fill(what, 1, 99, false));
            argument("fill beyond it", x, () -> x.fill(what, 1, 100, false));
        }
    }

    static void notSymmetricAndDiagonal() {
        AssignmentWorkbench x = sized(2);
        x.set(FLOW, 0, 1, 2);
        x.set(DISTANCE, 0, 1, 3);
        x.set(DISTANCE, 1, 0, 5);
        same("a flow from 0 to 1", 6, x.cost());
        x.exchange(0, 1);
        same("from 1 to 0, after an exchange", 10, x.cost());
        x.set(FLOW, 0, 0, 7);
        same("a flow to itself over no distance", 10, x.cost());
        x.set(DISTANCE, 1, 1, 1);
        same("a flow to itself", 17, x.cost());
        x.exchange(0, 1);
        same("a distance from itself without a flow", 6, x.cost());
        AssignmentWorkbench y = sized(1);
        y.set(FLOW, 0, 0, 7);
        y.set(DISTANCE, 0, 0, 9);
        same("with one facility the diagonal is all", 63, y.cost());
    }

    static void eachLocationOccursOnce() {
        for (int n = 1; n <= 4; n++) {
            AssignmentWorkbench x = sized(n);
            for (int number = 0; number < COUNTS[n]; number++) {
                x.choose(number);
                int seen = 0;
                for (int i = 0; i < n; i++) {
                    seen |= 1 << x.location(i);
                }
                same("the locations of " + number + " of " + n, (1 << n) - 1, seen);
            }
        }
    }

    static void costOverAllPairs() {
        AssignmentWorkbench x = new AssignmentWorkbench();
        table(x, DISTANCE, new int[][] {{1, 2, 3}, {11, 12, 13}, {21, 22, 23}});
        for (int cell = 0; cell < 9; cell++) {
            int i = cell / 3;
            int j = cell % 3;
            x.set(FLOW, i, j, 1);
            for (int number = 0; number < 6; number++) {
                int[] p = ORDER[number];
                same("a flow alone", 10 * p[i] + p[j] + 1, x.choose(number));
            }
            x.set(FLOW, i, j, 0);
        }
        for (int cell = 0; cell < 9; cell++) {
            x.set(COST, cell / 3, cell % 3, 4);
            for (int number = 0; number < 6; number++) {
                int due = ORDER[number][cell / 3] == cell % 3 ? 4 : 0;
                same("a cost alone", due, x.choose(number));
            }
            x.set(COST, cell / 3, cell % 3, 0);
        }
    }

    static void numberedInOrderFrom0() {
        AssignmentWorkbench x = new AssignmentWorkbench();
        for (int number = 0; number < 6; number++) {
            x.choose(number);
            places("assignment " + number, x, ORDER[number]);
        }
        for (int n = 1; n <= 6; n++) {
            AssignmentWorkbench y = sized(n);
            range("a number of " + n, Check.INDEX, y, 0, COUNTS[n] - 1, y::choose);
            y.choose(COUNTS[n] - 1);
            for (int i = 0; i < n; i++) {
                same("the last one falls", n - 1 - i, y.location(i));
            }
            y.choose(0);
            for (int i = 0; i < n; i++) {
                same("the first one rises", i, y.location(i));
            }
        }
        AssignmentWorkbench z = sized(6);
        z.choose(1);
        places("the second of six", z, 0, 1, 2, 3, 5, 4);
        z.choose(718);
        places("the last but one of six", z, 5, 4, 3, 2, 0, 1);
        z.choose(119);
        places("the last that begins with 0", z, 0, 5, 4, 3, 2, 1);
        z.choose(120);
        places("the first that begins with 1", z, 1, 0, 2, 3, 4, 5);
    }

    static void currentAtFirstAndAfterResize0() {
        AssignmentWorkbench x = new AssignmentWorkbench();
        same("number at first", 0, x.number());
        places("at first", x, 0, 1, 2);
        for (int n = 6; n >= 1; n--) {
            x.choose(COUNTS[x.size()] - 1);
            x.resize(n);
            same("number after resize", 0, x.number());
            for (int i = 0; i < n; i++) {
                same("location after resize", i, x.location(i));
            }
        }
        AssignmentWorkbench y = new AssignmentWorkbench();
        y.choose(5);
        y.resize(3);
        same("number after resize to the same n", 0, y.number());
    }

    static void noneOccursTwiceInAFixing() {
        AssignmentWorkbench x = new AssignmentWorkbench();
        x.fix(1, 1);
        state("the facility once more", x, () -> x.fix(1, 0));
        state("the location once more", x, () -> x.fix(0, 1));
        state("the pair once more", x, () -> x.fix(1, 1));
        same("another facility and location", 2, x.fix(0, 2));
        same("the last ones", 3, x.fix(2, 0));
        x.free(1);
        state("a location that is still fixed", x, () -> x.fix(1, 2));
        same("the one that became free", 3, x.fix(1, 1));
    }

    private static void agreeing(AssignmentWorkbench x, int... due) {
        same("how many agree", due.length, x.within(HIGH));
        for (int k = 0; k < due.length; k++) {
            same("the agreeing one at " + k, due[k], x.optimal(k));
        }
        same("none behind them", -1, x.optimal(due.length));
    }

    static void agreesWithEachPair() {
        AssignmentWorkbench x = new AssignmentWorkbench();
        agreeing(x, 0, 1, 2, 3, 4, 5);
        x.fix(1, 2);
        agreeing(x, 1, 3);
        x.fix(0, 1);
        agreeing(x, 3);
        x.fix(2, 0);
        agreeing(x, 3);
        x.free(1);
        agreeing(x, 3);
        x.free(0);
        agreeing(x, 3, 5);
    }

    static void fixingAtFirstEmpty() {
        AssignmentWorkbench x = new AssignmentWorkbench();
        for (int i = 0; i < 3; i++) {
            int facility = i;
            same("fixed at first", -1, x.fixed(i));
            state("free at first", x, () -> x.free(facility));
        }
        same("all agree with it", 6, x.within(HIGH));
        same("the first pair is the only one", 1, x.fix(0, 0));
    }

    static void theOthersAreFree() {
        AssignmentWorkbench x = new AssignmentWorkbench();
        x.fix(1, 2);
        for (int i = 0; i < 3; i++) {
            for (int k = 0; k < 3; k++) {
                int facility = i;
                int location = k;
                if (i == 1 || k == 2) {
                    state("entry of a fixed one", x, () -> x.entry(facility, location));
                } else {
                    takes("entry of free ones", () -> x.entry(facility, location));
                }
            }
        }
        same("m is 2: there is an exchange", 2, x.bestExchange());
        x.fix(0, 0);
        same("m is 1: the only entry", 1000000, x.regret(2));
        x.fix(2, 1);
        same("m is 0", -1, x.branchOn());
    }

    // ---- promise 1: a new object

    static void newObject() {
        AssignmentWorkbench x = new AssignmentWorkbench();
        same("n", 3, x.size());
        same("cost", 0, x.cost());
        same("symmetries of equal locations", 6, x.symmetries());
        same("the text is a script of no command", -1, x.fault());
        same("run of no command", 0, x.run());
        same("its record is the only one", 0, x.undo());
        state("undo without a record", x, x::undo);
        same("no search", -1, x.found(6));
        same("no node", -1, x.nodes(0));
        same("the text is empty", 1, x.type(' '));
        same("another object's text is empty, too", 0, new AssignmentWorkbench().clearText());
    }

    // ---- promise 2: resize

    static void resizeClearsAll() {
        for (int n = 1; n <= 6; n++) {
            AssignmentWorkbench x = new AssignmentWorkbench();
            greatest(x);
            x.choose(5);
            x.fix(2, 0);
            x.resize(n);
            for (int what = 0; what < 3; what++) {
                for (int cell = 0; cell < n * n; cell++) {
                    same("a number after resize", 0, x.get(what, cell / n, cell % n));
                }
            }
            for (int i = 0; i < n; i++) {
                same("fixed after resize", -1, x.fixed(i));
            }
            same("number after resize", 0, x.number());
        }
    }

    static void resizeIsUndoable() {
        AssignmentWorkbench x = small();
        x.choose(4);
        x.fix(2, 0);
        for (int n = 1; n <= 6; n++) {
            int size = n;
            undoable("resize to " + n, x, () -> x.resize(size));
        }
        places("the assignment stands again", x, ORDER[4]);
        same("the fixing stands again", 0, x.fixed(2));
    }

    static void resizeTakes1To6() {
        AssignmentWorkbench x = new AssignmentWorkbench();
        int before = 3;
        for (int n : new int[] {1, 2, 5, 6}) {
            same("resize(" + n + ")", before, x.resize(n));
            same("size then", n, x.size());
            before = n;
        }
        argument("one less than 1", x, () -> x.resize(0));
        argument("one more than 6", x, () -> x.resize(7));
    }

    static void resizeAnswersThePrevious() {
        AssignmentWorkbench x = new AssignmentWorkbench();
        same("the first n", 3, x.resize(6));
        same("the greatest n", 6, x.resize(1));
        same("the least n", 1, x.resize(1));
        same("the same n", 1, x.resize(2));
    }

    static void resizeThrowsOutOfRange() {
        AssignmentWorkbench x = small();
        range("resize", Check.ARGUMENT, x, 1, 6, x::resize);
    }

    // ---- promise 3: size

    static void sizeAnswersN() {
        AssignmentWorkbench x = new AssignmentWorkbench();
        only("size at first", x, 3, x::size);
        x.resize(1);
        only("the least size", x, 1, x::size);
        x.resize(6);
        only("the greatest size", x, 6, x::size);
        x.undo();
        only("size after undo", x, 1, x::size);
    }

    // ---- promise 4: set

    static void setIsUndoable() {
        AssignmentWorkbench x = small();
        for (int what = 0; what < 3; what++) {
            int table = what;
            undoable("set to the least", x, () -> x.set(table, 0, 1, 0));
            undoable("set to the greatest", x, () -> x.set(table, 2, 0, 99));
        }
        undoable("set to the same", x, () -> x.set(FLOW, 0, 1, 2));
    }

    static void setTakesWhat0To2() {
        AssignmentWorkbench x = new AssignmentWorkbench();
        x.set(0, 0, 1, 10);
        x.set(1, 0, 1, 20);
        x.set(2, 0, 1, 30);
        argument("one less than 0", x, () -> x.set(-1, 0, 1, 40));
        argument("one more than 2", x, () -> x.set(3, 0, 1, 40));
        same("0 is a flow", 10, x.get(0, 0, 1));
        same("1 is a distance", 20, x.get(1, 0, 1));
        same("2 is a cost", 30, x.get(2, 0, 1));
        // 10 * 20 with the facility 0 at 0, and 30 with the facility 0 at 1
        same("the flow over the distance", 200, x.cost());
        same("the cost of 0 at 1", 30, x.choose(2));
    }

    static void setTakesEachFirstIndex() {
        for (int n : new int[] {1, 2, 6}) {
            AssignmentWorkbench x = sized(n);
            for (int a = 0; a < n; a++) {
                same("set", 0, x.set(DISTANCE, a, 0, a + 1));
            }
            for (int a = 0; a < n; a++) {
                same("get", a + 1, x.get(DISTANCE, a, 0));
            }
            index("before the first", x, () -> x.set(FLOW, -1, 0, 1));
            index("behind the last", x, () -> x.set(COST, n, 0, 1));
        }
    }

    static void setTakesEachSecondIndex() {
        for (int n : new int[] {1, 2, 6}) {
            AssignmentWorkbench x = sized(n);
            for (int b = 0; b < n; b++) {
                same("set", 0, x.set(COST, 0, b, b + 1));
            }
            for (int b = 0; b < n; b++) {
                same("get", b + 1, x.get(COST, 0, b));
            }
            index("before the first", x, () -> x.set(FLOW, 0, -1, 1));
            index("behind the last", x, () -> x.set(DISTANCE, 0, n, 1));
        }
    }

    static void setTakes0To99() {
        AssignmentWorkbench x = new AssignmentWorkbench();
        int before = 0;
        for (int value : new int[] {99, 98, 1, 0}) {
            same("set to " + value, before, x.set(FLOW, 1, 1, value));
            same("get", value, x.get(FLOW, 1, 1));
            before = value;
        }
        argument("one less than 0", x, () -> x.set(FLOW, 1, 1, -1));
        argument("one more than 99", x, () -> x.set(FLOW, 1, 1, 100));
    }

    static void setThrowsIndex() {
        for (int n : new int[] {1, 3, 6}) {
            AssignmentWorkbench x = sized(n);
            range("a", Check.INDEX, x, 0, n - 1, v -> x.set(FLOW, v, n - 1, 5));
            range("b", Check.INDEX, x, 0, n - 1, v -> x.set(COST, n - 1, v, 5));
        }
    }

    static void setThrowsArgument() {
        AssignmentWorkbench x = new AssignmentWorkbench();
        range("what", Check.ARGUMENT, x, 0, 2, v -> x.set(v, 2, 2, 5));
        range("value", Check.ARGUMENT, x, 0, 99, v -> x.set(DISTANCE, 2, 2, v));
        argument("both out of range", x, () -> x.set(3, 2, 2, 100));
    }

    // ---- promise 5: get

    static void getTakesWhat0To2() {
        AssignmentWorkbench x = small();
        only("a flow", x, 3, () -> x.get(0, 1, 0));
        only("a distance", x, 3, () -> x.get(1, 1, 0));
        only("a cost", x, 1, () -> x.get(2, 1, 0));
        argument("one less than 0", x, () -> x.get(-1, 1, 0));
        argument("one more than 2", x, () -> x.get(3, 1, 0));
    }

    static void getTakesEachFirstIndex() {
        AssignmentWorkbench x = small();
        int[] due = {2, 0, 5};
        for (int a = 0; a < 3; a++) {
            same("get", due[a], x.get(FLOW, a, 1));
        }
        index("before the first", x, () -> x.get(FLOW, -1, 1));
        index("behind the last", x, () -> x.get(FLOW, 3, 1));
    }

    static void getTakesEachSecondIndex() {
        AssignmentWorkbench x = small();
        int[] due = {0, 7, 9};
        for (int b = 0; b < 3; b++) {
            same("get", due[b], x.get(COST, 0, b));
        }
        index("before the first", x, () -> x.get(COST, 0, -1));
        index("behind the last", x, () -> x.get(COST, 0, 3));
    }

    static void getThrowsIndex() {
        for (int n : new int[] {1, 3, 6}) {
            AssignmentWorkbench x = sized(n);
            range("a", Check.INDEX, x, 0, n - 1, v -> x.get(DISTANCE, v, 0));
            range("b", Check.INDEX, x, 0, n - 1, v -> x.get(DISTANCE, 0, v));
        }
    }

    static void getThrowsArgument() {
        AssignmentWorkbench x = small();
        range("what", Check.ARGUMENT, x, 0, 2, v -> x.get(v, 2, 2));
    }

    // ---- promise 6: fill

    static void fillGoesRoundAt2To31() {
        // The greatest start gives 1043980748, and that by 65536 is 15929.
        AssignmentWorkbench x = sized(1);
        same("from the greatest start", 29, x.fill(FLOW, HIGH, 99, false));
        // The one before it gives 2087949151: 31859.
        same("from the one before it", 59, x.fill(FLOW, HIGH - 1, 99, false));
        // 12345 is below 65536; 1 gives 1103527590: 16838.
        same("from the least start", 0, x.fill(FLOW, 0, 99, false));
        same("from the one behind it", 38, x.fill(FLOW, 1, 99, false));
        AssignmentWorkbench y = sized(2);
        // 0 goes on with 12345, 1406932606, 654583775, 1449466924: 0, 21468, 9988, 22117.
        y.fill(DISTANCE, 0, 99, false);
        same("the first", 0, y.get(DISTANCE, 0, 0));
        same("the second, in the row", 68, y.get(DISTANCE, 0, 1));
        same("the third, in the next row", 88, y.get(DISTANCE, 1, 0));
        same("the fourth", 17, y.get(DISTANCE, 1, 1));
        // The remainders of 21468 by 98 + 1 and by 1 + 1
        y.fill(DISTANCE, 0, 98, false);
        same("a limit of 98", 84, y.get(DISTANCE, 0, 1));
        y.fill(DISTANCE, 0, 1, false);
        same("a limit of 1, even", 0, y.get(DISTANCE, 0, 1));
        same("a limit of 1, odd", 1, y.get(DISTANCE, 1, 1));
    }

    static void fillIsUndoable() {
        AssignmentWorkbench x = small();
        for (int what = 0; what < 3; what++) {
            int table = what;
            undoable("fill", x, () -> x.fill(table, 5, 99, true));
        }
        undoable("fill with 0", x, () -> x.fill(FLOW, 5, 0, false));
    }

    static void fillTakesWhat0To2() {
        for (int what = 0; what < 3; what++) {
            AssignmentWorkbench x = sized(2);
            x.fill(what, 0, 99, false);
            for (int table = 0; table < 3; table++) {
                same("only this table", table == what ? 88 : 0, x.get(table, 1, 0));
            }
        }
        AssignmentWorkbench y = sized(2);
        argument("one less than 0", y, () -> y.fill(-1, 0, 99, false));
        argument("one more than 2", y, () -> y.fill(3, 0, 99, false));
    }

    static void fillTakesStart0OrMore() {
        AssignmentWorkbench x = sized(1);
        same("the least start", 0, x.fill(COST, 0, 99, false));
        same("one more", 38, x.fill(COST, 1, 99, false));
        same("the greatest start", 29, x.fill(COST, HIGH, 99, false));
        argument("one less than 0", x, () -> x.fill(COST, -1, 99, false));
        argument("far less", x, () -> x.fill(COST, LOW, 99, false));
    }

    static void fillTakesLimit0To99() {
        AssignmentWorkbench x = sized(2);
        same("the greatest limit", 173, x.fill(FLOW, 0, 99, false));
        // 0, 84, 88, 40
        same("one less", 212, x.fill(FLOW, 0, 98, false));
        // 0, 0, 0, 1
        same("one more than the least", 1, x.fill(FLOW, 0, 1, false));
        same("the least limit", 0, x.fill(FLOW, 0, 0, false));
        argument("one less than 0", x, () -> x.fill(FLOW, 0, -1, false));
        argument("one more than 99", x, () -> x.fill(FLOW, 0, 100, false));
    }

    static void fillSymmetric() {
        for (int n : new int[] {1, 2, 6}) {
            AssignmentWorkbench x = sized(n);
            AssignmentWorkbench y = sized(n);
            x.fill(FLOW, 77, 99, false);
            y.fill(FLOW, 77, 99, true);
            for (int a = 0; a < n; a++) {
                same("on the diagonal", 0, y.get(FLOW, a, a));
                for (int b = a + 1; b < n; b++) {
                    same("above it", x.get(FLOW, a, b), y.get(FLOW, a, b));
                    same("below it", x.get(FLOW, a, b), y.get(FLOW, b, a));
                }
            }
        }
        AssignmentWorkbench z = sized(2);
        z.fill(COST, 0, 99, true);
        same("costs, too", 68, z.get(COST, 1, 0));
        z.fill(COST, 0, 99, false);
        same("not without it", 88, z.get(COST, 1, 0));
        same("the diagonal without it", 17, z.get(COST, 1, 1));
    }

    static void fillAnswersTheSum() {
        AssignmentWorkbench x = sized(2);
        same("all four", 0 + 68 + 88 + 17, x.fill(FLOW, 0, 99, false));
        same("after they are made symmetric", 68 + 68, x.fill(FLOW, 0, 99, true));
        AssignmentWorkbench y = sized(1);
        same("one entry", 38, y.fill(FLOW, 1, 99, false));
        same("one entry, symmetric", 0, y.fill(FLOW, 1, 99, true));
        AssignmentWorkbench z = sized(6);
        int sum = z.fill(FLOW, 3, 99, false);
        for (int cell = 0; cell < 36; cell++) {
            sum -= z.get(FLOW, cell / 6, cell % 6);
        }
        same("all 36", 0, sum);
    }

    static void fillThrowsArgument() {
        AssignmentWorkbench x = small();
        range("what", Check.ARGUMENT, x, 0, 2, v -> x.fill(v, 5, 9, false));
        range("limit", Check.ARGUMENT, x, 0, 99, v -> x.fill(FLOW, 5, v, true));
        argument("start -1", x, () -> x.fill(FLOW, -1, 9, false));
        argument("start LOW", x, () -> x.fill(FLOW, LOW, 9, true));
        takes("start 0", () -> x.fill(FLOW, 0, 9, false));
        takes("start HIGH", () -> x.fill(FLOW, HIGH, 9, false));
    }
}
