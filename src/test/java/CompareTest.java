/**
 * Many runs of calls, made by a fixed sequence of numbers, each answered by the workbench and
 * by the naive one; every answer and every exception has to be the same. A run ends with the
 * last call for which an object serves.
 */
public final class CompareTest {
    private static final int CALLS = 512;
    private static final String PIECES = "fdc0123456789 ;;   fdc05x";

    private final AssignmentWorkbench x = new AssignmentWorkbench();
    private final NaiveWorkbench y = new NaiveWorkbench();
    private final int run;
    private final int style;
    private long random;
    private int calls;

    private CompareTest(int run) {
        this.run = run;
        style = run / 6 % 4;
        random = 7919L * run + 17;
    }

    private int below(int limit) {
        random = random * 6364136223846793005L + 1442695040888963407L;
        return (int) ((random >>> 33) % limit);
    }

    /** An index, most often one that exists. */
    private int index() {
        int kind = below(40);
        if (kind == 0) {
            return -1;
        }
        if (kind == 1) {
            return y.size();
        }
        if (kind == 2) {
            return below(2) == 0 ? Integer.MIN_VALUE : Integer.MAX_VALUE;
        }
        return below(y.size());
    }

    /** A number from low to high, seldom one beside them. */
    private int number(int low, int high) {
        int kind = below(40);
        if (kind == 0) {
            return low - 1;
        }
        if (kind == 1) {
            return high + 1;
        }
        if (kind == 2) {
            return below(2) == 0 ? Integer.MIN_VALUE : Integer.MAX_VALUE;
        }
        return low + below(high - low + 1);
    }

    private void both(String call, Check.Call ours, Check.Call naive) {
        if (calls == CALLS) {
            return;
        }
        calls++;
        Check.same("run " + run + ": " + call, Check.outcome(naive), Check.outcome(ours));
    }

    private void change() {
        int what = number(0, 2);
        int a = index();
        int b = index();
        int few = style == 3 ? 1 : 99;
        int value = number(0, few);
        int start = below(3) == 0 ? number(0, 5) : below(Integer.MAX_VALUE);
        boolean symmetric = below(2) == 0;
        switch (below(style == 3 ? 6 : 12)) {
            case 0:
                if (below(6) == 0) {
                    int n = number(1, 6);
                    both("resize " + n, () -> x.resize(n), () -> y.resize(n));
                }
                break;
            case 1:
            case 2:
                both("fill", () -> x.fill(what, start, value, symmetric),
                        () -> y.fill(what, start, value, symmetric));
                break;
            case 3:
                int number = number(0, 23);
                both("choose", () -> x.choose(number), () -> y.choose(number));
                break;
            case 4:
                both("descend", x::descend, y::descend);
                break;
            case 5:
                both("exchange", () -> x.exchange(a, b), () -> y.exchange(a, b));
                break;
            case 6:
            case 7:
                both("fix", () -> x.fix(a, b), () -> y.fix(a, b));
                break;
            case 8:
                both("free", () -> x.free(a), () -> y.free(a));
                break;
            default:
                both("set", () -> x.set(what, a, b, value), () -> y.set(what, a, b, value));
                break;
        }
    }

    private void ask() {
        int a = index();
        int b = index();
        int what = number(0, 2);
        int k = number(0, 6);
        int part = number(0, 1);
        int limit = below(3) == 0 ? below(400000) : y.optimum() + below(200);
        boolean bestFirst = below(2) == 0;
        boolean symmetric = below(2) == 0;
        both("size", x::size, y::size);
        both("get", () -> x.get(what, a, b), () -> y.get(what, a, b));
        both("location", () -> x.location(a), () -> y.location(a));
        both("fixed", () -> x.fixed(a), () -> y.fixed(a));
        both("gain", () -> x.gain(a, b), () -> y.gain(a, b));
        both("entry", () -> x.entry(a, b), () -> y.entry(a, b));
        both("boundWith", () -> x.boundWith(a, b), () -> y.boundWith(a, b));
        both("regret", () -> x.regret(a), () -> y.regret(a));
        both("representative", () -> x.representative(a), () -> y.representative(a));
        both("found " + k, () -> x.found(k), () -> y.found(k));
        both("nodes " + k, () -> x.nodes(k), () -> y.nodes(k));
        both("mean " + part, () -> x.mean(part), () -> y.mean(part));
        both("optimal " + k, () -> x.optimal(k), () -> y.optimal(k));
        both("within " + limit, () -> x.within(limit), () -> y.within(limit));
        both("search", () -> x.search(bestFirst, symmetric), () -> y.search(bestFirst, symmetric));
        for (int pairs = 0; pairs <= 6; pairs++) {
            int p = pairs;
            both("nodes after a search", () -> x.nodes(p), () -> y.nodes(p));
        }
    }

    private void askForAll() {
        both("cost", x::cost, y::cost);
        both("number", x::number, y::number);
        both("bestExchange", x::bestExchange, y::bestExchange);
        both("optimum", x::optimum, y::optimum);
        both("optima", x::optima, y::optima);
        both("localOptima", x::localOptima, y::localOptima);
        both("fixedCost", x::fixedCost, y::fixedCost);
        both("bound", x::bound, y::bound);
        both("branchOn", x::branchOn, y::branchOn);
        both("symmetries", x::symmetries, y::symmetries);
    }

    private void write() {
        if (below(8) == 0) {
            both("clearText", x::clearText, y::clearText);
        }
        if (below(2) == 0) {
            String command = "" + "fdc".charAt(below(3)) + below(7) + " " + below(7) + " " + below(100) + ";";
            for (int i = 0; i < command.length(); i++) {
                type(command.charAt(i));
            }
        } else if (below(3) == 0) {
            type(number(32, 126));
        } else {
            type(PIECES.charAt(below(PIECES.length())));
        }
        both("fault", x::fault, y::fault);
        if (below(4) == 0) {
            both("run", x::run, y::run);
        }
    }

    private void type(int c) {
        both("type", () -> x.type(c), () -> y.type(c));
    }

    /** A problem of each size; in each fourth run one of few values, so that it has symmetries. */
    private void begin() {
        int n = 1 + run % 6;
        boolean few = style == 3;
        both("resize " + n, () -> x.resize(n), () -> y.resize(n));
        for (int table = 0; table < 3; table++) {
            int what = table;
            int start = below(Integer.MAX_VALUE);
            int limit = few ? (what == 2 ? 0 : 1) : below(100);
            boolean symmetric = what != 2 && (few || below(2) == 0);
            both("fill", () -> x.fill(what, start, limit, symmetric),
                    () -> y.fill(what, start, limit, symmetric));
        }
        ask();
        askForAll();
    }

    private void go() {
        both("checksum", x::checksum, y::checksum);
        if (run % 10 != 0) {
            begin();
        }
        while (calls < CALLS) {
            change();
            int kind = below(16);
            if (kind < 2) {
                ask();
            } else if (kind < 4) {
                askForAll();
            } else if (kind < 9) {
                write();
            } else if (kind < 12) {
                both("undo", x::undo, y::undo);
            }
            if (kind % 4 == 0) {
                both("checksum", x::checksum, y::checksum);
            }
        }
    }

    public static void main(String[] args) {
        for (int run = 0; run < 144; run++) {
            new CompareTest(run).go();
        }
        Check.end("CompareTest");
    }
}
