/** What the tests share: small problems, and checks round a call. */
abstract class Bench {
    static final int LOW = Integer.MIN_VALUE;
    static final int HIGH = Integer.MAX_VALUE;
    static final int FLOW = 0;
    static final int DISTANCE = 1;
    static final int COST = 2;

    /** The assignments of three facilities, in their order. */
    static final int[][] ORDER = {{0, 1, 2}, {0, 2, 1}, {1, 0, 2}, {1, 2, 0}, {2, 0, 1}, {2, 1, 0}};

    /** How many assignments there are, by n. */
    static final int[] COUNTS = {1, 1, 2, 6, 24, 120, 720};

    /** A call that takes a number. */
    interface With {
        long answer(int number);
    }

    static void same(String what, long due, long got) {
        Check.same(what, due, got);
    }

    static void index(String what, AssignmentWorkbench x, Check.Call call) {
        Check.refuses(what, Check.INDEX, x, call);
    }

    static void argument(String what, AssignmentWorkbench x, Check.Call call) {
        Check.refuses(what, Check.ARGUMENT, x, call);
    }

    static void state(String what, AssignmentWorkbench x, Check.Call call) {
        Check.refuses(what, Check.STATE, x, call);
    }

    /** The call ends normally. */
    static void takes(String what, Check.Call call) {
        Check.holds(what + " ends normally", !Check.outcome(call).startsWith("throws"));
    }

    /** The call takes the ends of a range and the numbers within, and none outside of it. */
    static void range(String what, String exception, AssignmentWorkbench x, int low, int high,
            With call) {
        for (int number : new int[] {low, low + 1, high - 1, high}) {
            if (number >= low && number <= high) {
                takes(what + " with " + number, () -> call.answer(number));
            }
        }
        for (int number : new int[] {low - 1, high + 1, LOW, HIGH}) {
            Check.refuses(what + " with " + number, exception, x, () -> call.answer(number));
        }
    }

    /** The call is undoable: undo() brings back all that could be seen before it. */
    static void undoable(String what, AssignmentWorkbench x, Check.Call call) {
        // So there are at most five records, and the call's record drops none.
        x.exchange(0, 0);
        x.undo();
        String before = Glimpse.of(x);
        takes(what, call);
        Check.holds(what + " makes a record", !before.equals(Glimpse.of(x)));
        takes("undo of " + what, x::undo);
        Check.same("the state after undo of " + what, before, Glimpse.of(x));
    }

    /** The call changes nothing that can be seen. */
    static void only(String what, AssignmentWorkbench x, long due, Check.Call call) {
        String before = Glimpse.of(x);
        same(what, due, call.answer());
        Check.same("the state after " + what, before, Glimpse.of(x));
    }

    static void write(AssignmentWorkbench x, String text) {
        x.clearText();
        for (int i = 0; i < text.length(); i++) {
            x.type(text.charAt(i));
        }
    }

    /** Sets the first rows and columns of a table. */
    static void table(AssignmentWorkbench x, int what, int[][] rows) {
        for (int a = 0; a < rows.length; a++) {
            for (int b = 0; b < rows[a].length; b++) {
                x.set(what, a, b, rows[a][b]);
            }
        }
    }

    /** Sets all numbers of the problem to the greatest that there is. */
    static void greatest(AssignmentWorkbench x) {
        int n = x.size();
        for (int what = 0; what < 3; what++) {
            for (int cell = 0; cell < n * n; cell++) {
                x.set(what, cell / n, cell % n, 99);
            }
        }
    }

    static void places(String what, AssignmentWorkbench x, int... due) {
        for (int i = 0; i < due.length; i++) {
            same(what + ", facility " + i, due[i], x.location(i));
        }
    }

    /** Checks found(0), found(1) and so on. */
    static void results(AssignmentWorkbench x, int... due) {
        for (int what = 0; what < due.length; what++) {
            same("found(" + what + ")", due[what], x.found(what));
        }
    }

    /** Checks nodes() for all numbers of pairs; those that are not given are 0. */
    static void counts(AssignmentWorkbench x, int... due) {
        for (int pairs = 0; pairs < 7; pairs++) {
            same("nodes(" + pairs + ")", pairs < due.length ? due[pairs] : 0, x.nodes(pairs));
        }
    }

    /** n facilities and locations, all numbers 0. */
    static AssignmentWorkbench sized(int n) {
        AssignmentWorkbench x = new AssignmentWorkbench();
        x.resize(n);
        return x;
    }

    /** No flows and distances, so that each entry is a cost and each bound the least cost. */
    static AssignmentWorkbench costs(int[]... rows) {
        AssignmentWorkbench x = sized(rows.length);
        table(x, COST, rows);
        return x;
    }

    static int[] row(int... numbers) {
        return numbers;
    }

    /** Three facilities with numbers that are easily reckoned by hand. */
    static AssignmentWorkbench small() {
        AssignmentWorkbench x = new AssignmentWorkbench();
        table(x, FLOW, new int[][] {{1, 2, 0}, {3, 0, 4}, {0, 5, 0}});
        table(x, DISTANCE, new int[][] {{1, 1, 2}, {3, 0, 1}, {5, 2, 0}});
        table(x, COST, new int[][] {{0, 7, 9}, {1, 0, 0}, {0, 2, 8}});
        return x;
    }

    /** Five facilities, as in the tests of the document. */
    static AssignmentWorkbench five() {
        AssignmentWorkbench x = sized(5);
        x.fill(FLOW, 7, 9, true);
        x.fill(DISTANCE, 8, 9, true);
        x.fill(COST, 9, 20, false);
        return x;
    }

    /** Four locations in two pairs; a change of places within or of the pairs is a symmetry. */
    static AssignmentWorkbench pairs() {
        AssignmentWorkbench x = sized(4);
        table(x, DISTANCE, new int[][] {{0, 2, 0, 0}, {2, 0, 0, 0}, {0, 0, 0, 2}, {0, 0, 2, 0}});
        x.fill(FLOW, 4, 5, false);
        return x;
    }

    /** Three locations in a circle of one direction: to turn it is a symmetry. */
    static AssignmentWorkbench circle() {
        AssignmentWorkbench x = new AssignmentWorkbench();
        table(x, DISTANCE, new int[][] {{0, 1, 0}, {0, 0, 1}, {1, 0, 0}});
        return x;
    }
}
