/** A test for each promise of the document: ordinary inputs, the edges, and wrong inputs. */
public final class PromiseTest extends Bench {
    // ---- promises 1 to 6: the problem

    private static void promise1NewObject() {
        AssignmentWorkbench x = new AssignmentWorkbench();
        same("NONE", -1, AssignmentWorkbench.NONE);
        same("size of a new one", 3, x.size());
        for (int what = 0; what < 3; what++) {
            for (int cell = 0; cell < 9; cell++) {
                same("a number of a new one", 0, x.get(what, cell / 3, cell % 3));
            }
        }
        for (int i = 0; i < 3; i++) {
            same("location of a new one", i, x.location(i));
            same("fixed of a new one", -1, x.fixed(i));
        }
        same("clearText of a new one", 0, x.clearText());
        same("found of a new one", -1, x.found(0));
        state("undo of a new one", x, x::undo);
        x.set(FLOW, 1, 1, 9);
        same("another object", 0, new AssignmentWorkbench().get(FLOW, 1, 1));
    }

    private static void promise2Resize() {
        AssignmentWorkbench x = small();
        x.choose(4);
        x.fix(0, 2);
        x.search(false, false);
        undoable("resize(5)", x, () -> x.resize(5));
        undoable("resize(3), the same n", x, () -> x.resize(3));
        argument("resize(0)", x, () -> x.resize(0));
        argument("resize(7)", x, () -> x.resize(7));
        argument("resize(-1)", x, () -> x.resize(-1));
        argument("resize(LOW)", x, () -> x.resize(LOW));
        argument("resize(HIGH)", x, () -> x.resize(HIGH));
        same("resize(3)", 3, x.resize(3));
        for (int what = 0; what < 3; what++) {
            for (int cell = 0; cell < 9; cell++) {
                same("a number after resize", 0, x.get(what, cell / 3, cell % 3));
            }
        }
        same("number after resize", 0, x.number());
        same("fixed after resize", -1, x.fixed(0));
        same("found after resize stays", 3, x.found(6));
        same("resize(6)", 3, x.resize(6));
        same("resize(1)", 6, x.resize(1));
        same("resize(2)", 1, x.resize(2));
        same("location after resize", 1, x.location(1));
    }

    private static void promise3Size() {
        AssignmentWorkbench x = new AssignmentWorkbench();
        for (int n = 1; n <= 6; n++) {
            x.resize(n);
            only("size", x, n, x::size);
        }
        x.undo();
        same("size after undo", 5, x.size());
    }

    private static void promise4Set() {
        AssignmentWorkbench x = new AssignmentWorkbench();
        for (int what = 0; what < 3; what++) {
            int table = what;
            same("set", 0, x.set(what, 1, 2, 10 + what));
            same("set again", 10 + what, x.set(what, 1, 2, 99));
            same("set back", 99, x.set(what, 1, 2, 20 + what));
            same("the number with exchanged indices", 0, x.get(what, 2, 1));
            undoable("set to 0", x, () -> x.set(table, 1, 2, 0));
            undoable("set to the same", x, () -> x.set(table, 1, 2, 20 + table));
        }
        same("the flow", 20, x.get(FLOW, 1, 2));
        same("the distance", 21, x.get(DISTANCE, 1, 2));
        same("the cost", 22, x.get(COST, 1, 2));
        index("set, a is n", x, () -> x.set(FLOW, 3, 0, 1));
        index("set, a below 0", x, () -> x.set(FLOW, -1, 0, 1));
        index("set, b is n", x, () -> x.set(COST, 0, 3, 1));
        index("set, b below 0", x, () -> x.set(DISTANCE, 0, -1, 1));
        index("set, a far out", x, () -> x.set(DISTANCE, HIGH, 0, 1));
        index("set, b far out", x, () -> x.set(DISTANCE, 0, LOW, 1));
        index("set, the index comes first", x, () -> x.set(3, 3, 0, 100));
        index("set, the other index comes first", x, () -> x.set(-1, 0, 3, -1));
        argument("set, what 3", x, () -> x.set(3, 0, 0, 1));
        argument("set, what -1", x, () -> x.set(-1, 0, 0, 1));
        argument("set to 100", x, () -> x.set(FLOW, 0, 0, 100));
        argument("set to -1", x, () -> x.set(FLOW, 0, 0, -1));
    }

    private static void promise5Get() {
        AssignmentWorkbench x = small();
        only("get a flow", x, 4, () -> x.get(FLOW, 1, 2));
        only("get a distance", x, 5, () -> x.get(DISTANCE, 2, 0));
        only("get a cost", x, 8, () -> x.get(COST, 2, 2));
        index("get, a is n", x, () -> x.get(FLOW, 3, 0));
        index("get, b is n", x, () -> x.get(FLOW, 0, 3));
        index("get, a below 0", x, () -> x.get(FLOW, -1, 1));
        index("get, b below 0", x, () -> x.get(FLOW, 1, -1));
        index("get, the index comes first", x, () -> x.get(3, LOW, HIGH));
        argument("get, what 3", x, () -> x.get(3, 0, 0));
        argument("get, what -1", x, () -> x.get(-1, 2, 2));
    }

    private static void promise6Fill() {
        AssignmentWorkbench x = new AssignmentWorkbench();
        x.resize(2);
        // x = 0 gives 12345, 1406932606, 654583775, 1449466924: 0, 21468, 9988, 22117.
        same("fill from 0", 68 + 88 + 17, x.fill(FLOW, 0, 99, false));
        same("the first", 0, x.get(FLOW, 0, 0));
        same("the second", 68, x.get(FLOW, 0, 1));
        same("the third", 88, x.get(FLOW, 1, 0));
        same("the fourth", 17, x.get(FLOW, 1, 1));
        same("fill, symmetric", 136, x.fill(COST, 0, 99, true));
        same("above the diagonal", 68, x.get(COST, 0, 1));
        same("below the diagonal", 68, x.get(COST, 1, 0));
        same("on the diagonal", 0, x.get(COST, 1, 1));
        same("fill to 0", 0, x.fill(COST, 77, 0, false));
        same("a filled 0", 0, x.get(COST, 0, 1));
        undoable("fill", x, () -> x.fill(DISTANCE, HIGH, 99, false));
        argument("fill, what 3", x, () -> x.fill(3, 1, 5, true));
        argument("fill, what -1", x, () -> x.fill(-1, 1, 5, false));
        argument("fill, start -1", x, () -> x.fill(FLOW, -1, 5, true));
        argument("fill, start LOW", x, () -> x.fill(FLOW, LOW, 5, true));
        argument("fill, limit -1", x, () -> x.fill(FLOW, 1, -1, true));
        argument("fill, limit 100", x, () -> x.fill(FLOW, 1, 100, true));
        x.resize(5);
        same("the flows", 80, x.fill(FLOW, 7, 9, true));
        same("the distances", 114, x.fill(DISTANCE, 8, 9, true));
        same("the costs", 257, x.fill(COST, 9, 20, false));
    }

    // ---- promises 7 to 20: assignments

    private static void promise7Location() {
        AssignmentWorkbench x = new AssignmentWorkbench();
        x.choose(3);
        only("location(0)", x, 1, () -> x.location(0));
        only("location(1)", x, 2, () -> x.location(1));
        only("location(2)", x, 0, () -> x.location(2));
        index("location(3)", x, () -> x.location(3));
        index("location(-1)", x, () -> x.location(-1));
        index("location(HIGH)", x, () -> x.location(HIGH));
        index("location(LOW)", x, () -> x.location(LOW));
    }

    private static void promise8Cost() {
        AssignmentWorkbench x = small();
        // 1*1 + 2*1 + 3*3 + 4*1 + 5*2, and 0 + 0 + 8
        only("cost", x, 34, x::cost);
        x.choose(5);
        // 2, 1, 0: 1*0 + 2*2 + 3*1 + 4*3 + 5*1, and 9 + 0 + 0
        only("cost of the last", x, 33, x::cost);
        x.fix(0, 0);
        only("cost is not of the fixing", x, 33, x::cost);
        x.resize(6);
        for (int what = 0; what < 3; what++) {
            for (int cell = 0; cell < 36; cell++) {
                x.set(what, cell / 6, cell % 6, 99);
            }
        }
        only("the greatest cost", x, 36 * 99 * 99 + 6 * 99, x::cost);
    }

    private static void promise9Choose() {
        AssignmentWorkbench x = small();
        same("choose(5)", 33, x.choose(5));
        same("choose(0)", 34, x.choose(0));
        undoable("choose(4)", x, () -> x.choose(4));
        undoable("choose the current one", x, () -> x.choose(0));
        index("choose(6)", x, () -> x.choose(6));
        index("choose(-1)", x, () -> x.choose(-1));
        index("choose(HIGH)", x, () -> x.choose(HIGH));
        x.fix(0, 0);
        same("choose against the fixing", 33, x.choose(5));
        same("the fixing stays", 0, x.fixed(0));
        int[] counts = {1, 2, 6, 24, 120, 720};
        for (int n = 1; n <= 6; n++) {
            int count = counts[n - 1];
            x.resize(n);
            same("choose the last", 0, x.choose(count - 1));
            same("the last one's first location", n - 1, x.location(0));
            index("choose behind the last", x, () -> x.choose(count));
        }
    }

    private static void promise10Number() {
        AssignmentWorkbench x = new AssignmentWorkbench();
        x.resize(6);
        for (int number = 0; number < 720; number += 7) {
            x.choose(number);
            same("number", number, x.number());
        }
        x.choose(719);
        only("number of the last", x, 719, x::number);
        x.exchange(4, 5);
        same("number after an exchange", 718, x.number());
        x.resize(1);
        only("number of the only one", x, 0, x::number);
    }

    private static void promise11Exchange() {
        AssignmentWorkbench x = small();
        same("exchange(0, 2)", 1, x.exchange(0, 2));
        same("the location of one", 2, x.location(0));
        same("the location of the other", 0, x.location(2));
        same("the third location", 1, x.location(1));
        same("exchange(2, 0)", -1, x.exchange(2, 0));
        same("exchange(1, 1)", 0, x.exchange(1, 1));
        same("number after all", 0, x.number());
        undoable("exchange(0, 1)", x, () -> x.exchange(0, 1));
        undoable("exchange(2, 2)", x, () -> x.exchange(2, 2));
        x.fix(0, 0);
        same("exchange of a fixed facility", 1, x.exchange(0, 2));
        same("the fixing stays", 0, x.fixed(0));
        index("exchange(3, 0)", x, () -> x.exchange(3, 0));
        index("exchange(0, 3)", x, () -> x.exchange(0, 3));
        index("exchange(-1, 0)", x, () -> x.exchange(-1, 0));
        index("exchange(0, LOW)", x, () -> x.exchange(0, LOW));
    }

    private static void promise12Gain() {
        AssignmentWorkbench x = small();
        only("gain(0, 2)", x, 1, () -> x.gain(0, 2));
        only("gain(2, 0)", x, 1, () -> x.gain(2, 0));
        only("gain(1, 1)", x, 0, () -> x.gain(1, 1));
        for (int i = 0; i < 3; i++) {
            for (int j = 0; j < 3; j++) {
                int before = x.cost();
                int gain = x.gain(i, j);
                x.exchange(i, j);
                same("gain is the cost before minus the cost after", before - x.cost(), gain);
            }
        }
        index("gain(3, 0)", x, () -> x.gain(3, 0));
        index("gain(0, 3)", x, () -> x.gain(0, 3));
        index("gain(-1, -1)", x, () -> x.gain(-1, -1));
        index("gain(0, HIGH)", x, () -> x.gain(0, HIGH));
    }

    private static void promise13BestExchange() {
        AssignmentWorkbench x = new AssignmentWorkbench();
        only("all gains are 0", x, 1, x::bestExchange);
        x.set(COST, 1, 1, 5);
        // (0, 1) and (1, 2) gain 5.
        only("of several the lowest", x, 1, x::bestExchange);
        x.set(COST, 0, 1, 1);
        only("the greatest gain", x, 12, x::bestExchange);
        x.set(COST, 1, 2, 50);
        x.set(COST, 1, 0, 50);
        x.set(COST, 0, 2, 9);
        only("a pair with a loss is the best", x, 2, x::bestExchange);
        x.fix(1, 0);
        only("the free facilities alone", x, 2, x::bestExchange);
        same("its gain is below 0", -9, x.gain(0, 2));
        x.fix(0, 1);
        only("one free facility", x, -1, x::bestExchange);
        x.fix(2, 2);
        only("no free facility", x, -1, x::bestExchange);
        x.resize(1);
        only("one facility", x, -1, x::bestExchange);
        x.resize(6);
        x.set(COST, 4, 4, 1);
        x.set(COST, 5, 5, 1);
        only("the last pair", x, 45, x::bestExchange);
    }

    private static void promise14Descend() {
        AssignmentWorkbench x = five();
        x.fix(2, 3);
        same("descend", 1, x.descend());
        same("number then", 14, x.number());
        same("cost then", 480, x.cost());
        undoable("descend without an exchange", x, x::descend);
        same("descend again", 0, x.descend());
        AssignmentWorkbench y = new AssignmentWorkbench();
        y.resize(4);
        table(y, COST, new int[][] {{9, 0, 9, 9}, {9, 9, 0, 9}, {9, 9, 9, 0}, {0, 9, 9, 9}});
        undoable("descend", y, y::descend);
        same("descend by three exchanges", 3, y.descend());
        same("cost then", 0, y.cost());
        AssignmentWorkbench z = new AssignmentWorkbench();
        same("descend where all costs are equal", 0, z.descend());
        z.set(COST, 0, 0, 9);
        z.fix(0, 1);
        z.fix(1, 0);
        same("descend with one free facility", 0, z.descend());
        same("the current one stays", 0, z.number());
    }

    private static void promise15Within() {
        AssignmentWorkbench x = small();
        int[] costs = {34, 35, 58, 45, 47, 33};
        for (int number = 0; number < 6; number++) {
            same("the cost of " + number, costs[number], x.choose(number));
        }
        for (int limit = 0; limit < 80; limit++) {
            int due = 0;
            for (int cost : costs) {
                due += cost <= limit ? 1 : 0;
            }
            same("within(" + limit + ")", due, x.within(limit));
        }
        only("within(LOW)", x, 0, () -> x.within(LOW));
        only("within(-1)", x, 0, () -> x.within(-1));
        only("within(HIGH)", x, 6, () -> x.within(HIGH));
        x.fix(1, 2);
        only("within(HIGH) with a fixing", x, 2, () -> x.within(HIGH));
        only("within(-1) with a fixing", x, 0, () -> x.within(-1));
        x.resize(6);
        only("within(0)", x, 720, () -> x.within(0));
    }

    private static void promise16Optimum() {
        AssignmentWorkbench x = small();
        // The costs, in order, are 34, 35, 58, 45, 47, 33.
        only("optimum", x, 33, x::optimum);
        x.fix(0, 1);
        only("optimum with a pair", x, 45, x::optimum);
        x.fix(2, 2);
        only("optimum with one assignment", x, 58, x::optimum);
        AssignmentWorkbench y = five();
        only("optimum of five", y, 439, y::optimum);
        y.fix(2, 0);
        Check.holds("a fixing does not lower it", y.optimum() >= 439);
    }

    private static void promise17Optima() {
        AssignmentWorkbench x = new AssignmentWorkbench();
        only("optima of zeros", x, 6, x::optima);
        x.set(COST, 0, 0, 1);
        only("optima with a cost", x, 4, x::optima);
        x.fix(0, 0);
        only("optima with a fixing", x, 2, x::optima);
        x.fix(1, 1);
        x.fix(2, 2);
        only("optima of one", x, 1, x::optima);
        same("optima of five", 1, five().optima());
    }

    private static void promise18Optimal() {
        AssignmentWorkbench x = new AssignmentWorkbench();
        only("optimal(0)", x, 0, () -> x.optimal(0));
        only("optimal(5)", x, 5, () -> x.optimal(5));
        only("optimal(6)", x, -1, () -> x.optimal(6));
        only("optimal(-1)", x, -1, () -> x.optimal(-1));
        only("optimal(LOW)", x, -1, () -> x.optimal(LOW));
        only("optimal(HIGH)", x, -1, () -> x.optimal(HIGH));
        x.set(COST, 0, 0, 1);
        same("the first without 0 at 0", 2, x.optimal(0));
        same("the last of four", 5, x.optimal(3));
        same("none behind it", -1, x.optimal(4));
        x.fix(2, 0);
        same("the first with 2 at 0", 3, x.optimal(0));
        same("the second with 2 at 0", 5, x.optimal(1));
        same("no third one", -1, x.optimal(2));
        same("optimal of five", 9, five().optimal(0));
    }

    private static void promise19Mean() {
        AssignmentWorkbench x = five();
        only("mean(0)", x, 2537, () -> x.mean(0));
        only("mean(1)", x, 5, () -> x.mean(1));
        argument("mean(2)", x, () -> x.mean(2));
        argument("mean(-1)", x, () -> x.mean(-1));
        argument("mean(HIGH)", x, () -> x.mean(HIGH));
        x.resize(6);
        same("the numerator of 0", 0, x.mean(0));
        same("the denominator of 0", 1, x.mean(1));
        x.set(COST, 0, 0, 1);
        same("the numerator of a sixth", 1, x.mean(0));
        same("the denominator of a sixth", 6, x.mean(1));
        x.fix(0, 0);
        same("the numerator of 1", 1, x.mean(0));
        same("the denominator of 1", 1, x.mean(1));
        for (int what = 0; what < 2; what++) {
            for (int cell = 0; cell < 36; cell++) {
                x.set(what, cell / 6, cell % 6, 99);
            }
        }
        same("the greatest numerator", 36 * 99 * 99 + 1, x.mean(0));
    }

    private static void promise20LocalOptima() {
        AssignmentWorkbench x = five();
        only("local optima of five", x, 1, x::localOptima);
        x.resize(3);
        only("local optima of zeros", x, 6, x::localOptima);
        x.set(COST, 0, 0, 1);
        only("local optima with a cost", x, 4, x::localOptima);
        x.fix(0, 0);
        only("the fixed facility is not exchanged", x, 2, x::localOptima);
        x.set(COST, 1, 1, 1);
        only("of the free ones one order is better", x, 1, x::localOptima);
        x.fix(1, 1);
        only("one free facility", x, 1, x::localOptima);
        x.fix(2, 2);
        only("none is free", x, 1, x::localOptima);
    }

    // ---- promises 21 to 29: fixings and bounds

    private static void promise21Fix() {
        AssignmentWorkbench x = small();
        same("fix(1, 2)", 1, x.fix(1, 2));
        undoable("fix(0, 1)", x, () -> x.fix(0, 1));
        same("fixed then", 2, x.fixed(1));
        same("the current assignment stays", 0, x.number());
        state("fix a fixed facility", x, () -> x.fix(1, 0));
        state("fix a fixed location", x, () -> x.fix(0, 2));
        state("fix the same pair", x, () -> x.fix(1, 2));
        index("fix(3, 0)", x, () -> x.fix(3, 0));
        index("fix(0, 3)", x, () -> x.fix(0, 3));
        index("fix(-1, 0)", x, () -> x.fix(-1, 0));
        index("fix(0, -1)", x, () -> x.fix(0, -1));
        index("fix, the index comes first", x, () -> x.fix(1, 3));
        index("fix, the other index comes first", x, () -> x.fix(HIGH, 2));
        same("fix(2, 0)", 2, x.fix(2, 0));
        same("fix(0, 1)", 3, x.fix(0, 1));
    }

    private static void promise22Free() {
        AssignmentWorkbench x = small();
        x.fix(1, 2);
        x.fix(0, 1);
        undoable("free(1)", x, () -> x.free(1));
        same("free(1)", 2, x.free(1));
        same("fixed then", -1, x.fixed(1));
        same("the other pair stays", 1, x.fixed(0));
        state("free a free facility", x, () -> x.free(1));
        state("free another free facility", x, () -> x.free(2));
        index("free(3)", x, () -> x.free(3));
        index("free(-1)", x, () -> x.free(-1));
        index("free(LOW)", x, () -> x.free(LOW));
        same("the location can be fixed again", 2, x.fix(2, 2));
    }

    private static void promise23Fixed() {
        AssignmentWorkbench x = small();
        x.fix(1, 2);
        x.fix(2, 0);
        only("fixed(0)", x, -1, () -> x.fixed(0));
        only("fixed(1)", x, 2, () -> x.fixed(1));
        only("fixed(2)", x, 0, () -> x.fixed(2));
        index("fixed(3)", x, () -> x.fixed(3));
        index("fixed(-1)", x, () -> x.fixed(-1));
        index("fixed(HIGH)", x, () -> x.fixed(HIGH));
    }

    private static void promise24FixedCost() {
        AssignmentWorkbench x = small();
        only("no pair", x, 0, x::fixedCost);
        x.fix(0, 0);
        only("one pair, with f(0, 0) * d(0, 0)", x, 1, x::fixedCost);
        x.fix(1, 2);
        // and 2 * 2 + 3 * 5 and the cost 0
        only("two pairs", x, 20, x::fixedCost);
        x.fix(2, 1);
        same("all pairs", x.choose(1), x.fixedCost());
        AssignmentWorkbench y = five();
        y.fix(2, 3);
        only("a pair of five", y, 7, y::fixedCost);
    }

    private static void promise25Entry() {
        AssignmentWorkbench x = five();
        int[][] due = {
            {88, 107, 114, 90, 123}, {60, 82, 81, 74, 99}, {84, 122, 127, 94, 130},
            {52, 85, 82, 71, 78}, {48, 66, 72, 67, 74}};
        for (int i = 0; i < 5; i++) {
            for (int k = 0; k < 5; k++) {
                same("entry(" + i + ", " + k + ")", due[i][k], x.entry(i, k));
            }
        }
        AssignmentWorkbench y = small();
        // c 0, 1 * 1, and the flows 0, 2 with the distances 2, 1
        only("entry(0, 0)", y, 3, () -> y.entry(0, 0));
        // c 0, 0 * 0, and the flows 3, 4 with the distances 5, 2
        only("entry(1, 2)", y, 23, () -> y.entry(1, 2));
        y.fix(2, 1);
        // c 0, 1 * 1, 0 * 1 + 0 * 3, and the flow 2 with the distance 2
        only("entry(0, 0) with a fixing", y, 5, () -> y.entry(0, 0));
        // c 0, 0, 4 * 2 + 5 * 1, and the flow 3 with the distance 5
        only("entry(1, 2) with a fixing", y, 28, () -> y.entry(1, 2));
        state("entry of a fixed facility", y, () -> y.entry(2, 0));
        state("entry of a fixed location", y, () -> y.entry(0, 1));
        index("entry(3, 0)", y, () -> y.entry(3, 0));
        index("entry(0, 3)", y, () -> y.entry(0, 3));
        index("entry(-1, 0)", y, () -> y.entry(-1, 0));
        index("entry, the index comes first", y, () -> y.entry(2, -1));
        index("entry, the other index comes first", y, () -> y.entry(LOW, 1));
        y.fix(0, 0);
        // 28 without the flow to 0, and 3 * 5 + 2 * 2 with the pair of 0
        only("the last entry", y, 32, () -> y.entry(1, 2));
    }

    private static void promise26Bound() {
        AssignmentWorkbench x = five();
        only("bound", x, 399, x::bound);
        x.fix(2, 3);
        only("bound with a pair", x, 419, x::bound);
        x.fix(0, 0);
        x.fix(1, 1);
        x.fix(3, 2);
        x.fix(4, 4);
        only("bound of a whole fixing", x, 460, x::bound);
        same("it is the cost", 460, x.fixedCost());
        x.resize(1);
        same("bound of zeros", 0, x.bound());
        x.set(COST, 0, 0, 4);
        x.set(FLOW, 0, 0, 3);
        x.set(DISTANCE, 0, 0, 5);
        only("bound of one facility", x, 19, x::bound);
    }

    private static void promise27BoundWith() {
        AssignmentWorkbench x = five();
        x.fix(2, 3);
        only("boundWith(0, 0)", x, 438, () -> x.boundWith(0, 0));
        only("boundWith(0, 1)", x, 445, () -> x.boundWith(0, 1));
        same("the fixing stays", -1, x.fixed(0));
        state("boundWith a fixed facility", x, () -> x.boundWith(2, 0));
        state("boundWith a fixed location", x, () -> x.boundWith(0, 3));
        index("boundWith(5, 0)", x, () -> x.boundWith(5, 0));
        index("boundWith(0, 5)", x, () -> x.boundWith(0, 5));
        index("boundWith(0, -1)", x, () -> x.boundWith(0, -1));
        index("boundWith, the index comes first", x, () -> x.boundWith(2, 5));
        index("boundWith, the other index comes first", x, () -> x.boundWith(-1, 3));
        int due = x.boundWith(4, 2);
        x.fix(4, 2);
        same("it is the bound after fix", due, x.bound());
        x.fix(0, 0);
        x.fix(1, 1);
        same("boundWith the last pair", x.optimum(), x.boundWith(3, 4));
    }

    private static void promise28Regret() {
        AssignmentWorkbench x = new AssignmentWorkbench();
        only("regret of zeros", x, 0, () -> x.regret(0));
        table(x, COST, new int[][] {{5, 9, 7}, {4, 4, 8}, {6, 1, 6}});
        only("second minus smallest", x, 2, () -> x.regret(0));
        only("equal ones count each", x, 0, () -> x.regret(1));
        only("regret(2)", x, 5, () -> x.regret(2));
        x.fix(1, 0);
        only("the free locations alone", x, 2, () -> x.regret(0));
        only("the free locations alone, too", x, 5, () -> x.regret(2));
        state("regret of a fixed facility", x, () -> x.regret(1));
        index("regret(3)", x, () -> x.regret(3));
        index("regret(-1)", x, () -> x.regret(-1));
        index("regret(HIGH)", x, () -> x.regret(HIGH));
        x.fix(0, 2);
        only("regret where m is 1", x, 1000000, () -> x.regret(2));
        AssignmentWorkbench y = five();
        y.fix(2, 3);
        only("regret of five", y, 37, () -> y.regret(0));
    }

    private static void promise29BranchOn() {
        AssignmentWorkbench x = new AssignmentWorkbench();
        only("of equal ones the lowest", x, 0, x::branchOn);
        table(x, COST, new int[][] {{5, 9, 7}, {4, 4, 8}, {6, 1, 6}});
        only("the greatest regret", x, 2, x::branchOn);
        x.set(COST, 1, 0, 9);
        x.set(COST, 1, 1, 3);
        only("of several the lowest", x, 1, x::branchOn);
        x.fix(1, 1);
        only("of the free ones", x, 0, x::branchOn);
        x.fix(0, 0);
        only("the last one", x, 2, x::branchOn);
        x.fix(2, 2);
        only("none", x, -1, x::branchOn);
        same("branchOn of five", 3, five().branchOn());
    }

    // ---- promises 30 and 31: symmetries

    private static void promise30Symmetries() {
        AssignmentWorkbench x = pairs();
        only("two pairs", x, 8, x::symmetries);
        x.fix(0, 2);
        only("with a pair", x, 2, x::symmetries);
        x.set(COST, 3, 1, 5);
        only("a cost ends it", x, 1, x::symmetries);
        x.resize(6);
        only("all of six", x, 720, x::symmetries);
        x.set(DISTANCE, 2, 2, 1);
        only("a distance from itself", x, 120, x::symmetries);
        x.resize(3);
        table(x, DISTANCE, new int[][] {{0, 1, 0}, {0, 0, 1}, {1, 0, 0}});
        only("a circle in one direction", x, 3, x::symmetries);
        x.fix(1, 1);
        only("a circle with a pair", x, 1, x::symmetries);
        x.resize(1);
        only("one location", x, 1, x::symmetries);
    }

    private static void promise31Representative() {
        AssignmentWorkbench x = pairs();
        for (int k = 0; k < 4; k++) {
            same("the representative of " + k, 0, x.representative(k));
        }
        x.fix(0, 2);
        only("representative(0)", x, 0, () -> x.representative(0));
        only("representative(1)", x, 0, () -> x.representative(1));
        only("of the fixed one", x, 2, () -> x.representative(2));
        only("of its partner", x, 3, () -> x.representative(3));
        index("representative(4)", x, () -> x.representative(4));
        index("representative(-1)", x, () -> x.representative(-1));
        index("representative(HIGH)", x, () -> x.representative(HIGH));
        AssignmentWorkbench y = new AssignmentWorkbench();
        table(y, DISTANCE, new int[][] {{0, 1, 0}, {0, 0, 1}, {1, 0, 0}});
        same("in a circle", 0, y.representative(2));
        y.set(COST, 0, 2, 1);
        same("in a broken circle", 2, y.representative(2));
        y.resize(3);
        y.set(COST, 1, 0, 1);
        same("the lowest alike is not 0", 1, y.representative(2));
    }

    // ---- promises 32 to 34: searches

    private static void promise32Search() {
        AssignmentWorkbench x = five();
        x.choose(77);
        same("depth first", 40, x.search(false, false));
        results(x, 439, 9, 40, 23, 3, 0, 5);
        same("best first", 31, x.search(true, false));
        results(x, 439, 9, 31, 21, 1, 22, 5);
        same("the current assignment stays", 77, x.number());
        same("a search makes no record", 4, x.undo());
        x.fix(2, 3);
        same("best first with a pair", 14, x.search(true, false));
        results(x, 439, 9, 14);
        AssignmentWorkbench y = pairs();
        same("depth first without symmetries", 20, y.search(false, false));
        counts(y, 1, 4, 12, 2, 1);
        same("depth first with symmetries", 7, y.search(false, true));
        counts(y, 1, 1, 2, 2, 1);
        same("its best cost", 18, y.found(0));
        same("best first with symmetries", y.search(true, true), y.found(2));
        same("its best cost", 18, y.found(0));
        y.resize(1);
        same("one facility", 2, y.search(false, false));
        y.fix(0, 0);
        same("a whole fixing", 1, y.search(true, true));
        counts(y, 0, 1);
        results(y, 0, 0, 1, 0, 1, 1, 1);
    }

    private static void promise33Found() {
        AssignmentWorkbench x = new AssignmentWorkbench();
        for (int what = 0; what < 7; what++) {
            int result = what;
            only("found before a search", x, -1, () -> x.found(result));
        }
        argument("found(7) before a search", x, () -> x.found(7));
        x.search(false, false);
        results(x, 0, 0, 7, 3, 1, 0, 3);
        x.search(true, false);
        // The list holds the three children, then two for one of them, and one for one of these.
        results(x, 0, 0, 7, 3, 1, 4, 3);
        x.search(true, true);
        results(x, 0, 0, 4, 0, 1, 1, 3);
        x.resize(2);
        x.set(COST, 0, 0, 9);
        results(x, 0, 0, 4, 0, 1, 1, 3);
        x.undo();
        x.undo();
        results(x, 0, 0, 4, 0, 1, 1, 3);
        argument("found(7)", x, () -> x.found(7));
        argument("found(-1)", x, () -> x.found(-1));
        argument("found(LOW)", x, () -> x.found(LOW));
    }

    private static void promise34Nodes() {
        AssignmentWorkbench x = new AssignmentWorkbench();
        for (int pairs = 0; pairs < 7; pairs++) {
            int count = pairs;
            only("nodes before a search", x, -1, () -> x.nodes(count));
        }
        argument("nodes(7) before a search", x, () -> x.nodes(7));
        argument("nodes(-1) before a search", x, () -> x.nodes(-1));
        AssignmentWorkbench y = five();
        y.search(false, false);
        counts(y, 1, 5, 16, 9, 6, 3);
        y.fix(0, 0);
        y.fix(1, 1);
        y.search(true, false);
        same("none with fewer pairs", 0, y.nodes(1));
        same("the current fixing", 1, y.nodes(2));
        argument("nodes(7)", y, () -> y.nodes(7));
        argument("nodes(-1)", y, () -> y.nodes(-1));
        argument("nodes(HIGH)", y, () -> y.nodes(HIGH));
        y.resize(6);
        same("nodes after resize", 1, y.nodes(2));
        y.search(false, true);
        counts(y, 1, 1, 1, 1, 1, 1, 1);
    }

    // ---- promises 35 to 40: scripts, undo

    private static void promise35Type() {
        AssignmentWorkbench x = new AssignmentWorkbench();
        argument("type(31)", x, () -> x.type(31));
        argument("type(127)", x, () -> x.type(127));
        argument("type(-1)", x, () -> x.type(-1));
        argument("type(HIGH)", x, () -> x.type(HIGH));
        argument("type(LOW)", x, () -> x.type(LOW));
        argument("type(a code whose low bits are a letter)", x, () -> x.type(65536 + 'f'));
        same("type(126)", 1, x.type(126));
        for (int length = 2; length <= 120; length++) {
            same("type(32)", length, x.type(32));
        }
        state("type into a full text", x, () -> x.type(32));
        argument("type, the code comes first", x, () -> x.type(31));
        state("type makes no record", x, x::undo);
    }

    private static void promise36ClearText() {
        AssignmentWorkbench x = new AssignmentWorkbench();
        same("clearText", 0, x.clearText());
        write(x, "f 1;");
        same("fault before", 3, x.fault());
        same("clearText", 4, x.clearText());
        same("fault then", -1, x.fault());
        same("clearText again", 0, x.clearText());
        write(x, " ".repeat(120));
        same("clearText of a full one", 120, x.clearText());
        same("type then", 1, x.type('d'));
        state("clearText makes no record", x, x::undo);
    }

    private static void faults(String text, int due) {
        AssignmentWorkbench x = new AssignmentWorkbench();
        write(x, text);
        only("fault of '" + text + "'", x, due, x::fault);
    }

    private static void promise37Fault() {
        faults("", -1);
        faults("   ", -1);
        faults("f0 1 5;", -1);
        faults("  f  0  1  5  ;  ", -1);
        faults("f00 01 05;d1 2 7 ; c 2 0 99;", -1);
        faults("f99 99 99;", -1);
        faults("g", 0);
        faults("F0 1 2;", 0);
        faults(" ;", 1);
        faults("f", 1);
        faults("f ", 2);
        faults("f1", 2);
        faults("f1 2", 4);
        faults("f1 2 3", 6);
        faults("f1 2 3 ", 7);
        faults("f1 2;", 4);
        faults("f1 2 100;", 7);
        faults("f100 2 1;", 3);
        faults("f012;", 3);
        faults("f1 2 3 4;", 7);
        faults("f1 2 3d", 6);
        faults("f1 2 3;;", 7);
        faults("f1 2 3;f", 8);
        faults("ff", 1);
        faults("f-1 2 3;", 1);
        faults("f1 2 3,", 6);
        faults("1", 0);
        faults("f1,2", 2);
        faults("f/", 1);
        faults("f:", 1);
        StringBuilder full = new StringBuilder();
        while (full.length() < 120) {
            full.append("c1 1 1;");
        }
        faults(full.substring(0, 119), -1);
        faults(full.substring(0, 120), 120);
        faults(full.substring(0, 119) + "x", 119);
    }

    private static void promise38Run() {
        AssignmentWorkbench x = new AssignmentWorkbench();
        write(x, "f 0 1 5;d1 2 7 ; c 2 0 99;f9 0 1;c0 3 1;d0 1 1;d0 1 2;");
        undoable("run", x, x::run);
        same("run", 5, x.run());
        same("the flow", 5, x.get(FLOW, 0, 1));
        same("the distance", 7, x.get(DISTANCE, 1, 2));
        same("the cost", 99, x.get(COST, 2, 0));
        same("the later command counts", 2, x.get(DISTANCE, 0, 1));
        same("all is one change", 0, x.undo());
        same("the flow after undo", 0, x.get(FLOW, 0, 1));
        same("the text stays", 54, x.clearText());
        undoable("run of no command", x, x::run);
        same("run of no command", 0, x.run());
        write(x, "f3 0 1;c0 10 1;");
        undoable("run where all are skipped", x, x::run);
        same("run where all are skipped", 0, x.run());
        write(x, "f0 1 5;f");
        argument("run with a fault at the end", x, x::run);
        write(x, "g");
        argument("run with a fault at the start", x, x::run);
        x.resize(6);
        write(x, "f5 5 0;c5 0 42;d 05 5 1;");
        same("run with the last indices", 3, x.run());
        same("a cost", 42, x.get(COST, 5, 0));
        same("a distance", 1, x.get(DISTANCE, 5, 5));
    }

    private static void promise39Undo() {
        AssignmentWorkbench x = new AssignmentWorkbench();
        state("undo without a record", x, x::undo);
        for (int value = 1; value <= 8; value++) {
            x.set(FLOW, 0, 0, value);
        }
        for (int left = 5; left >= 0; left--) {
            same("undo", left, x.undo());
            same("the flow then", left + 2, x.get(FLOW, 0, 0));
        }
        state("undo of the dropped", x, x::undo);
        x.resize(4);
        x.choose(20);
        x.fix(2, 3);
        x.type('f');
        x.search(true, true);
        same("undo of fix", 2, x.undo());
        same("free again", -1, x.fixed(2));
        same("undo of choose", 1, x.undo());
        same("number then", 0, x.number());
        same("undo of resize", 0, x.undo());
        same("size then", 3, x.size());
        same("the flow then", 2, x.get(FLOW, 0, 0));
        same("the text stays", 1, x.clearText());
        same("the search stays", 4, x.found(6));
        x.set(FLOW, 0, 0, 50);
        same("undo after undo", 0, x.undo());
        same("the flow then", 2, x.get(FLOW, 0, 0));
    }

    private static long sum(long... numbers) {
        long h = 18459;
        for (long v : numbers) {
            h = 31 * h + v;
        }
        return h;
    }

    private static void promise40Checksum() {
        AssignmentWorkbench x = new AssignmentWorkbench();
        x.resize(2);
        table(x, FLOW, new int[][] {{1, 2}, {3, 4}});
        table(x, DISTANCE, new int[][] {{5, 6}, {7, 8}});
        table(x, COST, new int[][] {{9, 10}, {11, 12}});
        // 1 * 5 + 2 * 6 + 3 * 7 + 4 * 8 + 9 + 12 and 1 * 8 + 2 * 7 + 3 * 6 + 4 * 5 + 10 + 11
        only("checksum", x, sum(2, 1, 2, 3, 4, 5, 6, 7, 8, 9, 10, 11, 12, 0, 1, -1, -1,
                91, x.bound(), x.branchOn(), 1, -1, -1, -1, -1, -1, -1, -1, 0, 6), x::checksum);
        x.choose(1);
        x.fix(0, 1);
        x.fix(1, 0);
        x.type('f');
        x.search(false, false);
        x.undo();
        x.undo();
        x.fix(0, 0);
        only("checksum of all", x, sum(2, 1, 2, 3, 4, 5, 6, 7, 8, 9, 10, 11, 12, 1, 0, 0, -1,
                81, 91, 1, 1, 81, 1, 1, 0, 1, 0, 2, 1, 5), x::checksum);
        same("checksum of a new one", sum(3, 0, 0, 0, 0, 0, 0, 0, 0, 0, 0, 0, 0, 0, 0, 0, 0, 0, 0,
                0, 0, 0, 0, 0, 0, 0, 0, 0, 0, 1, 2, -1, -1, -1, 0, 0, 0, 6,
                -1, -1, -1, -1, -1, -1, -1, 0, 0), new AssignmentWorkbench().checksum());
    }

    public static void main(String[] args) {
        promise1NewObject();
        promise2Resize();
        promise3Size();
        promise4Set();
        promise5Get();
        promise6Fill();
        promise7Location();
        promise8Cost();
        promise9Choose();
        promise10Number();
        promise11Exchange();
        promise12Gain();
        promise13BestExchange();
        promise14Descend();
        promise15Within();
        promise16Optimum();
        promise17Optima();
        promise18Optimal();
        promise19Mean();
        promise20LocalOptima();
        promise21Fix();
        promise22Free();
        promise23Fixed();
        promise24FixedCost();
        promise25Entry();
        promise26Bound();
        promise27BoundWith();
        promise28Regret();
        promise29BranchOn();
        promise30Symmetries();
        promise31Representative();
        promise32Search();
        promise33Found();
        promise34Nodes();
        promise35Type();
        promise36ClearText();
        promise37Fault();
        promise38Run();
        promise39Undo();
        promise40Checksum();
        Check.end("PromiseTest");
    }
}
