/**
 * A workbench for the quadratic assignment problem: facilities with flows between them are
 * assigned to locations with distances between them at the least cost.
 */
public final class AssignmentWorkbench {
    /** Returned where there is no such thing. */
    public static final int NONE = -1;

    private static final int MOST = 6;
    private static final int CELLS = MOST * MOST;
    private static final int MOST_ASSIGNMENTS = 720;
    private static final int MOST_NODES = 1957;
    private static final int MOST_VALUE = 99;
    private static final int MOST_RECORDS = 6;
    private static final int MOST_TEXT = 120;
    private static final int INFINITE = 1000000;
    private static final int RESULTS = 7;
    private static final int[] FACTORIALS = {1, 1, 2, 6, 24, 120, 720};

    private final State now = new State();
    private final History history = new History();
    private final Agreeing agreeing = new Agreeing();
    private final Bounds bounds = new Bounds();
    private final Symmetries kept = new Symmetries();
    private final Search latest = new Search();
    private final Script script = new Script();
    private final int[] trial = new int[MOST];

    /** Creates a workbench with the initial problem, an empty text and without records. */
    public AssignmentWorkbench() {
    }

    // ---- the problem

    /** Sets n and clears the problem, the fixing and the current assignment. */
    public int resize(int n) throws IllegalArgumentException {
        if (n < 1 || n > MOST) {
            throw new IllegalArgumentException("n is out of range");
        }
        int before = now.n;
        history.push(now);
        now.reset(n);
        return before;
    }

    /** Returns the number of facilities. */
    public int size() {
        return now.n;
    }

    /** Sets a flow, a distance or a cost, and returns the previous number. */
    public int set(int what, int a, int b, int value)
            throws IndexOutOfBoundsException, IllegalArgumentException {
        requireIndex(a);
        requireIndex(b);
        requireTable(what);
        requireValue(value);
        int before = at(now.tableOf(what), a, b);
        history.push(now);
        put(now.tableOf(what), a, b, value);
        return before;
    }

    /** Returns a flow, a distance or a cost. */
    public int get(int what, int a, int b)
            throws IndexOutOfBoundsException, IllegalArgumentException {
        requireIndex(a);
        requireIndex(b);
        requireTable(what);
        return at(now.tableOf(what), a, b);
    }

    /** Fills a table with random numbers, and returns the sum of its entries. */
    public int fill(int what, int start, int limit, boolean symmetric)
            throws IllegalArgumentException {
        requireTable(what);
        requireValue(limit);
        if (start < 0) {
            throw new IllegalArgumentException("the start is below 0");
        }
        history.push(now);
        int[] table = now.tableOf(what);
        now.scatter(table, start, limit);
        if (symmetric) {
            now.mirror(table);
        }
        return now.sumOf(table);
    }

    // ---- assignments

    /** Returns the location of a facility in the current assignment. */
    public int location(int facility) throws IndexOutOfBoundsException {
        requireIndex(facility);
        return item(now.places, facility);
    }

    /** Returns the cost of the current assignment. */
    public int cost() {
        return now.costOf(now.places);
    }

    /** Makes the assignment with a number the current one, and returns its cost. */
    public int choose(int number) throws IndexOutOfBoundsException {
        if (number < 0 || number >= factorial(now.n)) {
            throw new IndexOutOfBoundsException("no assignment has this number");
        }
        history.push(now);
        arrange(number, now.n, now.places);
        return now.costOf(now.places);
    }

    /** Returns the number of the current assignment. */
    public int number() {
        return numberOf(now.places, now.n);
    }

    /** Exchanges two facilities of the current assignment, and returns the gain. */
    public int exchange(int one, int other) throws IndexOutOfBoundsException {
        requireIndex(one);
        requireIndex(other);
        int won = now.gainOf(now.places, one, other);
        history.push(now);
        swap(now.places, one, other);
        return won;
    }

    /** Returns the gain that an exchange would have. */
    public int gain(int one, int other) throws IndexOutOfBoundsException {
        requireIndex(one);
        requireIndex(other);
        return now.gainOf(now.places, one, other);
    }

    /** Returns the best exchange as 10 * i + j, or NONE. */
    public int bestExchange() {
        return now.bestPair();
    }

    /** Makes a descent from the current assignment, and returns the number of its exchanges. */
    public int descend() {
        history.push(now);
        int made = 0;
        // Each exchange lowers the cost, so no assignment comes twice.
        for (int round = 0; round < MOST_ASSIGNMENTS; round++) {
            int pair = now.bestPair();
            if (pair == NONE || now.gainOf(now.places, pair / 10, pair % 10) <= 0) {
                break;
            }
            swap(now.places, pair / 10, pair % 10);
            made++;
        }
        return made;
    }

    /** Counts the assignments that agree with the fixing and cost at most a limit. */
    public int within(int limit) {
        agreeing.load(now);
        return agreeing.countUpTo(limit);
    }

    /** Returns the least cost of an assignment that agrees with the fixing. */
    public int optimum() {
        agreeing.load(now);
        return agreeing.least;
    }

    /** Counts the assignments that agree with the fixing and have the least cost. */
    public int optima() {
        agreeing.load(now);
        return agreeing.countUpTo(agreeing.least);
    }

    /** Returns the number of the optimal assignment at a position, or NONE. */
    public int optimal(int k) {
        agreeing.load(now);
        return agreeing.cheapestAt(k);
    }

    /** Returns a part of the mean cost of the assignments that agree with the fixing. */
    public int mean(int part) throws IllegalArgumentException {
        if (part != 0 && part != 1) {
            throw new IllegalArgumentException("the part is neither 0 nor 1");
        }
        agreeing.load(now);
        int whole = part == 0 ? agreeing.sum : agreeing.count;
        int shared = commonDivisor(agreeing.sum, agreeing.count);
        return shared == 0 ? whole : whole / shared;
    }

    /** Counts the local optima that agree with the fixing. */
    public int localOptima() {
        return agreeing.countLocalOptima(now);
    }

    // ---- fixings and bounds

    /** Adds a pair to the fixing, and returns the number of pairs then. */
    public int fix(int facility, int location)
            throws IndexOutOfBoundsException, IllegalStateException {
        requireFree(facility, location);
        history.push(now);
        setItem(now.fixing, facility, location);
        return now.n - now.freeCount();
    }

    /** Removes the pair of a facility from the fixing, and returns its location. */
    public int free(int facility) throws IndexOutOfBoundsException, IllegalStateException {
        requireIndex(facility);
        int before = item(now.fixing, facility);
        if (before == NONE) {
            throw new IllegalStateException("the facility is free");
        }
        history.push(now);
        setItem(now.fixing, facility, NONE);
        return before;
    }

    /** Returns the location to which a facility is fixed, or NONE. */
    public int fixed(int facility) throws IndexOutOfBoundsException {
        requireIndex(facility);
        return item(now.fixing, facility);
    }

    /** Returns the cost of the fixed part. */
    public int fixedCost() {
        return now.partCost(now.fixing);
    }

    /** Returns the entry of a free facility and a free location. */
    public int entry(int facility, int location)
            throws IndexOutOfBoundsException, IllegalStateException {
        requireFree(facility, location);
        bounds.load(now, now.fixing);
        return at(bounds.entries, facility, location);
    }

    /** Returns the bound of the fixing. */
    public int bound() {
        bounds.load(now, now.fixing);
        return bounds.lowest();
    }

    /** Returns the bound that the fixing would have with one more pair. */
    public int boundWith(int facility, int location)
            throws IndexOutOfBoundsException, IllegalStateException {
        requireFree(facility, location);
        System.arraycopy(now.fixing, 0, trial, 0, MOST);
        setItem(trial, facility, location);
        bounds.load(now, trial);
        return bounds.lowest();
    }

    /** Returns the regret of a free facility. */
    public int regret(int facility) throws IndexOutOfBoundsException, IllegalStateException {
        requireIndex(facility);
        if (item(now.fixing, facility) != NONE) {
            throw new IllegalStateException("the facility is fixed");
        }
        bounds.load(now, now.fixing);
        return bounds.regretOf(facility);
    }

    /** Returns the free facility with the greatest regret, or NONE. */
    public int branchOn() {
        bounds.load(now, now.fixing);
        return bounds.mostRegretted();
    }

    // ---- symmetries

    /** Counts the symmetries that keep the fixing. */
    public int symmetries() {
        kept.load(now, now.fixing);
        return kept.count;
    }

    /** Returns the representative of a location. */
    public int representative(int location) throws IndexOutOfBoundsException {
        requireIndex(location);
        kept.load(now, now.fixing);
        return item(kept.lowest, location);
    }

    // ---- searches

    /** Makes a search, and returns the number of nodes that were counted. */
    public int search(boolean bestFirst, boolean symmetric) {
        latest.make(now, bestFirst, symmetric);
        return latest.nodeCount;
    }

    /** Returns a result of the latest search, or NONE. */
    public int found(int what) throws IllegalArgumentException {
        if (what < 0 || what >= RESULTS) {
            throw new IllegalArgumentException("there is no such result");
        }
        return latest.result(what);
    }

    /** Returns how many nodes with a number of pairs the latest search counted, or NONE. */
    public int nodes(int pairs) throws IllegalArgumentException {
        if (pairs < 0 || pairs > MOST) {
            throw new IllegalArgumentException("the number of pairs is out of range");
        }
        return latest.made ? item(latest.byPairs, pairs) : NONE;
    }

    // ---- scripts, undo

    /** Appends a character to the text, and returns the length of the text then. */
    public int type(int c) throws IllegalArgumentException, IllegalStateException {
        if (c < 32 || c > 126) {
            throw new IllegalArgumentException("the code is out of range");
        }
        if (script.length >= MOST_TEXT) {
            throw new IllegalStateException("the text is full");
        }
        script.append((char) c);
        return script.length;
    }

    /** Empties the text, and returns the length that it had. */
    public int clearText() {
        int before = script.length;
        script.length = 0;
        return before;
    }

    /** Returns the fault of the text, or NONE if it is a script. */
    public int fault() {
        return script.firstFault();
    }

    /** Carries out the script, and returns the number of commands that were not skipped. */
    public int run() throws IllegalArgumentException {
        if (script.firstFault() != NONE) {
            throw new IllegalArgumentException("the text has a fault");
        }
        history.push(now);
        int done = 0;
        script.rewind();
        for (int command = 0; command < MOST_TEXT && script.nextCommand(); command++) {
            if (script.a < now.n && script.b < now.n) {
                put(now.tableOf(script.what), script.a, script.b, script.value);
                done++;
            }
        }
        return done;
    }

    /** Restores the latest record, and returns how many records are left. */
    public int undo() throws IllegalStateException {
        if (history.count == 0) {
            throw new IllegalStateException("there is no record");
        }
        history.popInto(now);
        return history.count;
    }

    /** Computes a checksum of all that the workbench holds. */
    public long checksum() {
        long h = mix(18459L, now.n);
        h = mixTable(h, now.flows);
        h = mixTable(h, now.distances);
        h = mixTable(h, now.costs);
        h = mixRow(h, now.places, now.n);
        h = mixRow(h, now.fixing, now.n);
        h = mix(h, now.costOf(now.places));
        bounds.load(now, now.fixing);
        h = mix(h, bounds.lowest());
        h = mix(h, bounds.mostRegretted());
        kept.load(now, now.fixing);
        h = mix(h, kept.count);
        for (int what = 0; what < RESULTS; what++) {
            h = mix(h, latest.result(what));
        }
        h = mix(h, script.length);
        return mix(h, history.count);
    }

    // ---- what the calls share

    private long mixTable(long start, int[] table) {
        long h = start;
        for (int row = 0; row < now.n; row++) {
            for (int column = 0; column < now.n; column++) {
                h = mix(h, at(table, row, column));
            }
        }
        return h;
    }

    private static long mixRow(long start, int[] row, int length) {
        long h = start;
        for (int i = 0; i < length; i++) {
            h = mix(h, item(row, i));
        }
        return h;
    }

    private static long mix(long h, int v) {
        return 31L * h + v;
    }

    private void requireIndex(int index) {
        if (index < 0 || index >= now.n) {
            throw new IndexOutOfBoundsException("there is no such facility or location");
        }
    }

    private void requireFree(int facility, int location) {
        requireIndex(facility);
        requireIndex(location);
        if (item(now.fixing, facility) != NONE || has(takenBy(now.fixing), location)) {
            throw new IllegalStateException("the facility or the location is fixed");
        }
    }

    private static void requireTable(int what) {
        if (what < 0 || what > 2) {
            throw new IllegalArgumentException("there is no such table");
        }
    }

    private static void requireValue(int value) {
        if (value < 0 || value > MOST_VALUE) {
            throw new IllegalArgumentException("the number is out of range");
        }
    }

    // ---- rows and tables, which are never read or written outside their ends

    private static int item(int[] row, int index) {
        return index >= 0 && index < row.length ? row[index] : 0;
    }

    private static void setItem(int[] row, int index, int value) {
        if (index >= 0 && index < row.length) {
            row[index] = value;
        }
    }

    private static int at(int[] table, int row, int column) {
        int index = row * MOST + column;
        return index >= 0 && index < table.length ? table[index] : 0;
    }

    private static void put(int[] table, int row, int column, int value) {
        int index = row * MOST + column;
        if (index >= 0 && index < table.length) {
            table[index] = value;
        }
    }

    private static void swap(int[] row, int one, int other) {
        int moved = item(row, one);
        setItem(row, one, item(row, other));
        setItem(row, other, moved);
    }

    // ---- sets of locations, a bit for each

    private static boolean has(int set, int member) {
        return (set >> member & 1) == 1;
    }

    /** Returns the locations that occur in a fixing (or in a part of an assignment). */
    private static int takenBy(int[] fixing) {
        int taken = 0;
        for (int location : fixing) {
            if (location != NONE) {
                taken |= 1 << location;
            }
        }
        return taken;
    }

    // ---- assignments and their numbers

    private static int factorial(int k) {
        return Math.max(1, item(FACTORIALS, k));
    }

    /** Writes the assignment with a number into a row. */
    private static void arrange(int number, int n, int[] places) {
        int left = number;
        int used = 0;
        for (int i = 0; i < n; i++) {
            int block = factorial(n - 1 - i);
            int location = freeLocation(used, n, left / block);
            setItem(places, i, location);
            used |= 1 << location;
            left %= block;
        }
    }

    /** Returns the unused location with so many unused ones below it. */
    private static int freeLocation(int used, int n, int below) {
        int seen = 0;
        for (int location = 0; location < n; location++) {
            if (!has(used, location)) {
                if (seen == below) {
                    return location;
                }
                seen++;
            }
        }
        return 0;
    }

    private static int numberOf(int[] places, int n) {
        int number = 0;
        for (int i = 0; i < n; i++) {
            int lower = 0;
            for (int j = i + 1; j < n; j++) {
                if (item(places, j) < item(places, i)) {
                    lower++;
                }
            }
            number += lower * factorial(n - 1 - i);
        }
        return number;
    }

    /** Turns an assignment into the next one in order; the last one stays. */
    private static void advance(int[] places, int n) {
        int pivot = n - 2;
        while (pivot >= 0 && item(places, pivot) > item(places, pivot + 1)) {
            pivot--;
        }
        if (pivot < 0) {
            return;
        }
        int last = n - 1;
        while (last > pivot && item(places, last) < item(places, pivot)) {
            last--;
        }
        swap(places, pivot, last);
        for (int low = pivot + 1, high = n - 1; low < high; low++, high--) {
            swap(places, low, high);
        }
    }

    private static int commonDivisor(int one, int other) {
        int a = one;
        int b = other;
        for (int step = 0; step < 64 && b != 0; step++) {
            int rest = a % b;
            a = b;
            b = rest;
        }
        return a;
    }

    /** What a record holds: the problem, the current assignment and the current fixing. */
    private static final class State {
        int n;
        final int[] flows = new int[CELLS];
        final int[] distances = new int[CELLS];
        final int[] costs = new int[CELLS];
        final int[] places = new int[MOST];
        final int[] fixing = new int[MOST];

        State() {
            reset(3);
        }

        void reset(int size) {
            n = size;
            for (int cell = 0; cell < CELLS; cell++) {
                flows[cell] = 0;
                distances[cell] = 0;
                costs[cell] = 0;
            }
            for (int i = 0; i < MOST; i++) {
                places[i] = i;
                fixing[i] = NONE;
            }
        }

        void copyFrom(State other) {
            n = other.n;
            System.arraycopy(other.flows, 0, flows, 0, CELLS);
            System.arraycopy(other.distances, 0, distances, 0, CELLS);
            System.arraycopy(other.costs, 0, costs, 0, CELLS);
            System.arraycopy(other.places, 0, places, 0, MOST);
            System.arraycopy(other.fixing, 0, fixing, 0, MOST);
        }

        int[] tableOf(int what) {
            if (what == 0) {
                return flows;
            }
            return what == 1 ? distances : costs;
        }

        void scatter(int[] table, int start, int limit) {
            int span = Math.max(1, limit + 1);
            long x = start;
            for (int row = 0; row < n; row++) {
                for (int column = 0; column < n; column++) {
                    x = (1103515245L * x + 12345L) & 0x7fffffffL;
                    put(table, row, column, (int) ((x >> 16) % span));
                }
            }
        }

        void mirror(int[] table) {
            for (int row = 0; row < n; row++) {
                put(table, row, row, 0);
                for (int column = 0; column < row; column++) {
                    put(table, row, column, at(table, column, row));
                }
            }
        }

        int sumOf(int[] table) {
            int sum = 0;
            for (int row = 0; row < n; row++) {
                for (int column = 0; column < n; column++) {
                    sum += at(table, row, column);
                }
            }
            return sum;
        }

        int costOf(int[] assignment) {
            return partCost(assignment);
        }

        /** Returns the cost of the pairs of a fixing; a whole assignment is one of n pairs. */
        int partCost(int[] pairs) {
            int sum = 0;
            for (int i = 0; i < n; i++) {
                int k = item(pairs, i);
                if (k == NONE) {
                    continue;
                }
                sum += at(costs, i, k);
                for (int j = 0; j < n; j++) {
                    int l = item(pairs, j);
                    if (l != NONE) {
                        sum += at(flows, i, j) * at(distances, k, l);
                    }
                }
            }
            return sum;
        }

        /** Returns the gain, from those terms of the cost that the exchange changes. */
        int gainOf(int[] assignment, int one, int other) {
            if (one == other) {
                return 0;
            }
            int p = item(assignment, one);
            int q = item(assignment, other);
            int won = at(costs, one, p) + at(costs, other, q)
                    - at(costs, one, q) - at(costs, other, p);
            won += (at(flows, one, one) - at(flows, other, other))
                    * (at(distances, p, p) - at(distances, q, q));
            won += (at(flows, one, other) - at(flows, other, one))
                    * (at(distances, p, q) - at(distances, q, p));
            for (int j = 0; j < n; j++) {
                if (j != one && j != other) {
                    int l = item(assignment, j);
                    won += (at(flows, one, j) - at(flows, other, j))
                            * (at(distances, p, l) - at(distances, q, l));
                    won += (at(flows, j, one) - at(flows, j, other))
                            * (at(distances, l, p) - at(distances, l, q));
                }
            }
            return won;
        }

        boolean isFree(int facility) {
            return item(fixing, facility) == NONE;
        }

        int freeCount() {
            int count = 0;
            for (int i = 0; i < n; i++) {
                if (isFree(i)) {
                    count++;
                }
            }
            return count;
        }

        /** Returns the best exchange of the current assignment as 10 * i + j, or NONE. */
        int bestPair() {
            int best = NONE;
            int most = 0;
            for (int i = 0; i < n; i++) {
                for (int j = i + 1; j < n; j++) {
                    if (!isFree(i) || !isFree(j)) {
                        continue;
                    }
                    int won = gainOf(places, i, j);
                    if (best == NONE || won > most) {
                        best = 10 * i + j;
                        most = won;
                    }
                }
            }
            return best;
        }

        boolean agrees(int[] assignment) {
            for (int i = 0; i < n; i++) {
                if (!isFree(i) && item(fixing, i) != item(assignment, i)) {
                    return false;
                }
            }
            return true;
        }

        /** Tells whether no exchange of two free facilities of an assignment has a gain. */
        boolean isLocalOptimum(int[] assignment) {
            for (int i = 0; i < n; i++) {
                for (int j = i + 1; j < n; j++) {
                    if (isFree(i) && isFree(j) && gainOf(assignment, i, j) > 0) {
                        return false;
                    }
                }
            }
            return true;
        }
    }

    /** The latest records; the rows of the dropped ones are used again. */
    private static final class History {
        int count;
        private int next;
        private final State[] records = new State[MOST_RECORDS];

        History() {
            for (int i = 0; i < MOST_RECORDS; i++) {
                records[i] = new State();
            }
        }

        void push(State state) {
            State record = record(next);
            if (record != null) {
                record.copyFrom(state);
            }
            next = next + 1 < MOST_RECORDS ? next + 1 : 0;
            count = Math.min(MOST_RECORDS, count + 1);
        }

        void popInto(State state) {
            next = next > 0 ? next - 1 : MOST_RECORDS - 1;
            State record = record(next);
            if (record != null) {
                state.copyFrom(record);
            }
            count = Math.max(0, count - 1);
        }

        private State record(int slot) {
            return slot >= 0 && slot < records.length ? records[slot] : null;
        }
    }

    /** The assignments that agree with the fixing, in order, with their costs. */
    private static final class Agreeing {
        int count;
        int sum;
        int least;
        // by number; NONE for an assignment that does not agree
        private final int[] costs = new int[MOST_ASSIGNMENTS];
        private int total;
        private final int[] places = new int[MOST];

        void load(State state) {
            restart(state.n);
            count = 0;
            sum = 0;
            least = INFINITE;
            for (int number = 0; number < total; number++) {
                int cost = NONE;
                if (state.agrees(places)) {
                    cost = state.costOf(places);
                    count++;
                    sum += cost;
                    least = Math.min(least, cost);
                }
                setItem(costs, number, cost);
                advance(places, state.n);
            }
        }

        private void restart(int n) {
            total = factorial(n);
            for (int i = 0; i < MOST; i++) {
                places[i] = i;
            }
        }

        int countUpTo(int limit) {
            int below = 0;
            for (int number = 0; number < total; number++) {
                int cost = item(costs, number);
                if (cost != NONE && cost <= limit) {
                    below++;
                }
            }
            return below;
        }

        int cheapestAt(int position) {
            int seen = 0;
            for (int number = 0; number < total; number++) {
                if (item(costs, number) == least) {
                    if (seen == position) {
                        return number;
                    }
                    seen++;
                }
            }
            return NONE;
        }

        int countLocalOptima(State state) {
            restart(state.n);
            int found = 0;
            for (int number = 0; number < total; number++) {
                if (state.agrees(places) && state.isLocalOptimum(places)) {
                    found++;
                }
                advance(places, state.n);
            }
            return found;
        }
    }

    /** The entries, the bound and the regrets of the fixing that was loaded last. */
    private static final class Bounds {
        int free;
        final int[] entries = new int[CELLS];
        private int n;
        private int fixedPart;
        private int freeLocations;
        private int freeFacilities;
        // the free facilities, ascending
        private final int[] facilities = new int[MOST];
        // row by row, the numbers to the other free facilities or locations, ascending
        private final int[] sortedFlows = new int[CELLS];
        private final int[] sortedDistances = new int[CELLS];
        // by set of locations: the least sum of the first facilities on just these
        private final int[] sums = new int[1 << MOST];

        void load(State state, int[] fixing) {
            n = state.n;
            fixedPart = state.partCost(fixing);
            collectFree(fixing);
            for (int row = 0; row < n; row++) {
                sortRow(state.flows, row, freeFacilities, sortedFlows);
                sortRow(state.distances, row, freeLocations, sortedDistances);
            }
            for (int i = 0; i < n; i++) {
                for (int k = 0; k < n; k++) {
                    if (has(freeFacilities, i) && has(freeLocations, k)) {
                        put(entries, i, k, linear(state, fixing, i, k) + leastProduct(i, k));
                    }
                }
            }
        }

        private void collectFree(int[] fixing) {
            freeLocations = ((1 << n) - 1) & ~takenBy(fixing);
            freeFacilities = 0;
            free = 0;
            for (int i = 0; i < n; i++) {
                if (item(fixing, i) == NONE) {
                    freeFacilities |= 1 << i;
                    setItem(facilities, free, i);
                    free++;
                }
            }
        }

        private void sortRow(int[] table, int row, int members, int[] sorted) {
            if (!has(members, row)) {
                return;
            }
            int length = 0;
            for (int other = 0; other < n; other++) {
                if (other == row || !has(members, other)) {
                    continue;
                }
                int value = at(table, row, other);
                int place = length;
                while (place > 0 && at(sorted, row, place - 1) > value) {
                    put(sorted, row, place, at(sorted, row, place - 1));
                    place--;
                }
                put(sorted, row, place, value);
                length++;
            }
        }

        private int linear(State state, int[] fixing, int i, int k) {
            int sum = at(state.costs, i, k) + at(state.flows, i, i) * at(state.distances, k, k);
            for (int j = 0; j < n; j++) {
                int l = item(fixing, j);
                if (l != NONE) {
                    sum += at(state.flows, i, j) * at(state.distances, k, l);
                    sum += at(state.flows, j, i) * at(state.distances, l, k);
                }
            }
            return sum;
        }

        private int leastProduct(int i, int k) {
            int sum = 0;
            for (int t = 0; t < free - 1; t++) {
                sum += at(sortedFlows, i, t) * at(sortedDistances, k, free - 2 - t);
            }
            return sum;
        }

        /** Returns the bound. */
        int lowest() {
            setItem(sums, 0, 0);
            for (int set = 1; set <= freeLocations; set++) {
                if ((set & ~freeLocations) == 0) {
                    setItem(sums, set, leastSum(set));
                }
            }
            return fixedPart + item(sums, freeLocations);
        }

        private int leastSum(int set) {
            int facility = item(facilities, Integer.bitCount(set) - 1);
            int least = INFINITE;
            for (int k = 0; k < n; k++) {
                if (has(set, k)) {
                    least = Math.min(least, item(sums, set ^ 1 << k) + at(entries, facility, k));
                }
            }
            return least;
        }

        int regretOf(int facility) {
            if (free == 1) {
                return INFINITE;
            }
            int first = INFINITE;
            int second = INFINITE;
            for (int k = 0; k < n; k++) {
                if (has(freeLocations, k)) {
                    int entry = at(entries, facility, k);
                    second = Math.min(second, Math.max(first, entry));
                    first = Math.min(first, entry);
                }
            }
            return second - first;
        }

        int mostRegretted() {
            int best = NONE;
            int most = NONE;
            for (int a = 0; a < free; a++) {
                int regret = regretOf(item(facilities, a));
                if (regret > most) {
                    most = regret;
                    best = item(facilities, a);
                }
            }
            return best;
        }

        /** Writes the free locations by a facility's entries, and returns how many there are. */
        int orderLocations(int facility, int[] order) {
            int length = 0;
            for (int k = 0; k < n; k++) {
                if (!has(freeLocations, k)) {
                    continue;
                }
                int entry = at(entries, facility, k);
                int place = length;
                while (place > 0 && at(entries, facility, item(order, place - 1)) > entry) {
                    setItem(order, place, item(order, place - 1));
                    place--;
                }
                setItem(order, place, k);
                length++;
            }
            return length;
        }
    }

    /** The symmetries that keep the fixing that was loaded last. */
    private static final class Symmetries {
        private static final int MOST_STEPS = 1000000;

        int count;
        // by location: the lowest one that is alike to it
        final int[] lowest = new int[MOST];
        private int n;
        private int fixedLocations;
        private final int[] image = new int[MOST];

        /** Tries the images of the locations one after the other, going back where none suits. */
        void load(State state, int[] fixing) {
            n = state.n;
            count = 0;
            fixedLocations = takenBy(fixing);
            for (int k = 0; k < MOST; k++) {
                lowest[k] = k;
                image[k] = NONE;
            }
            int k = 0;
            for (int step = 0; step < MOST_STEPS && k >= 0; step++) {
                int next = nextImage(state, k, item(image, k) + 1);
                setItem(image, k, next);
                if (next == NONE) {
                    k--;
                } else if (k == n - 1) {
                    note();
                } else {
                    k++;
                }
            }
        }

        private int nextImage(State state, int k, int from) {
            for (int to = Math.max(0, from); to < n; to++) {
                if (suits(state, k, to)) {
                    return to;
                }
            }
            return NONE;
        }

        private boolean suits(State state, int k, int to) {
            if (k != to && (has(fixedLocations, k) || has(fixedLocations, to))) {
                return false;
            }
            for (int i = 0; i < n; i++) {
                if (at(state.costs, i, k) != at(state.costs, i, to)) {
                    return false;
                }
            }
            int[] d = state.distances;
            for (int l = 0; l < k; l++) {
                int m = item(image, l);
                if (m == to || at(d, k, l) != at(d, to, m) || at(d, l, k) != at(d, m, to)) {
                    return false;
                }
            }
            return at(d, k, k) == at(d, to, to);
        }

        private void note() {
            count++;
            for (int k = 0; k < n; k++) {
                setItem(lowest, k, Math.min(item(lowest, k), item(image, k)));
            }
        }
    }

    /**
     * The nodes of a search that wait. A node is a number whose low bits are its fixing; for
     * best first the bits above are its bound, its m and its turn, so that the least number
     * goes first.
     */
    private static final class NodeList {
        int size;
        int greatest;
        // No waiting node contains another, so there are not more of them than assignments.
        private final long[] nodes = new long[MOST_ASSIGNMENTS];

        void clear() {
            size = 0;
            greatest = 0;
        }

        private long node(int index) {
            return index >= 0 && index < nodes.length ? nodes[index] : 0L;
        }

        private void setNode(int index, long node) {
            if (index >= 0 && index < nodes.length) {
                nodes[index] = node;
            }
        }

        void addLast(long node) {
            setNode(size, node);
            size++;
        }

        long takeLast() {
            size = Math.max(0, size - 1);
            return node(size);
        }

        /** Adds a node to the heap: a parent, at half the place, is less than its children. */
        void addOrdered(long node) {
            int place = size;
            while (place > 0 && node((place - 1) / 2) > node) {
                setNode(place, node((place - 1) / 2));
                place = (place - 1) / 2;
            }
            setNode(place, node);
            size++;
            greatest = Math.max(greatest, size);
        }

        long takeLeast() {
            long least = node(0);
            long moved = takeLast();
            int place = 0;
            for (int level = 0; level < MOST_ASSIGNMENTS; level++) {
                int child = lesserChild(place);
                if (child >= size || node(child) >= moved) {
                    break;
                }
                setNode(place, node(child));
                place = child;
            }
            setNode(place, moved);
            return least;
        }

        private int lesserChild(int place) {
            int left = 2 * place + 1;
            return left + 1 < size && node(left + 1) < node(left) ? left + 1 : left;
        }
    }

    /** The latest search and its results. */
    private static final class Search {
        private static final int FREE = 7;

        boolean made;
        int nodeCount;
        final int[] byPairs = new int[MOST + 1];
        private int bestCost;
        private int bestNumber;
        private int cutCount;
        private int improvements;
        private int greatestList;
        private int sizeThen;
        private boolean bestFirst;
        private boolean symmetric;
        private int arrived;
        private final NodeList waiting = new NodeList();
        private final Bounds bounds = new Bounds();
        private final Symmetries kept = new Symmetries();
        private final int[] fixing = new int[MOST];
        private final int[] order = new int[MOST];

        int result(int what) {
            if (!made) {
                return NONE;
            }
            switch (what) {
                case 0:
                    return bestCost;
                case 1:
                    return bestNumber;
                case 2:
                    return nodeCount;
                case 3:
                    return cutCount;
                case 4:
                    return improvements;
                case 5:
                    return greatestList;
                default:
                    return sizeThen;
            }
        }

        void make(State state, boolean byBound, boolean bySymmetry) {
            begin(state, byBound, bySymmetry);
            admit(state);
            for (int turn = 0; turn < MOST_NODES && waiting.size > 0; turn++) {
                unpack(bestFirst ? waiting.takeLeast() : waiting.takeLast());
                if (visit(state)) {
                    expand(state);
                }
            }
            greatestList = waiting.greatest;
        }

        private void begin(State state, boolean byBound, boolean bySymmetry) {
            made = true;
            bestFirst = byBound;
            symmetric = bySymmetry;
            sizeThen = state.n;
            bestCost = INFINITE;
            bestNumber = NONE;
            nodeCount = 0;
            cutCount = 0;
            improvements = 0;
            arrived = 0;
            waiting.clear();
            for (int pairs = 0; pairs <= MOST; pairs++) {
                byPairs[pairs] = 0;
            }
            System.arraycopy(state.fixing, 0, fixing, 0, MOST);
        }

        /** Puts the node of the fixing into the list; depth first needs no bound there. */
        private void admit(State state) {
            if (!bestFirst) {
                waiting.addLast(pack());
                return;
            }
            bounds.load(state, fixing);
            long bound = bounds.lowest();
            waiting.addOrdered(bound << 32 | (long) bounds.free << 29 | (long) arrived << 18 | pack());
            arrived++;
        }

        private long pack() {
            long packed = 0;
            for (int i = 0; i < MOST; i++) {
                long location = fixing[i] == NONE ? FREE : fixing[i];
                packed |= location << 3 * i;
            }
            return packed;
        }

        private void unpack(long node) {
            for (int i = 0; i < MOST; i++) {
                int location = (int) (node >> 3 * i & 7L);
                fixing[i] = location == FREE ? NONE : location;
            }
        }

        /** Counts the node of the fixing, and tells whether its children follow. */
        private boolean visit(State state) {
            bounds.load(state, fixing);
            int bound = bounds.lowest();
            int pairs = state.n - bounds.free;
            nodeCount++;
            setItem(byPairs, pairs, item(byPairs, pairs) + 1);
            if (bound >= bestCost) {
                cutCount++;
                return false;
            }
            if (bounds.free > 0) {
                return true;
            }
            bestCost = bound;
            bestNumber = numberOf(fixing, state.n);
            improvements++;
            return false;
        }

        /** Puts the children of the node that was visited last into the list. */
        private void expand(State state) {
            int facility = bounds.mostRegretted();
            int count = bounds.orderLocations(facility, order);
            if (symmetric) {
                kept.load(state, fixing);
                count = keepRepresentatives(count);
            }
            for (int c = 0; c < count; c++) {
                // Depth first takes the last node of the list, so the first child comes last.
                int location = item(order, bestFirst ? c : count - 1 - c);
                setItem(fixing, facility, location);
                admit(state);
            }
            setItem(fixing, facility, NONE);
        }

        private int keepRepresentatives(int count) {
            int left = 0;
            for (int c = 0; c < count; c++) {
                int location = item(order, c);
                if (item(kept.lowest, location) == location) {
                    setItem(order, left, location);
                    left++;
                }
            }
            return left;
        }
    }

    /** The text, and a reader that goes through its commands. */
    private static final class Script {
        int length;
        // the command that was read last
        int what;
        int a;
        int b;
        int value;
        private int place;
        private boolean faulty;
        private final char[] text = new char[MOST_TEXT];

        void append(char c) {
            if (length >= 0 && length < text.length) {
                text[length] = c;
                length++;
            }
        }

        void rewind() {
            place = 0;
            faulty = false;
        }

        int firstFault() {
            rewind();
            for (int command = 0; command < MOST_TEXT; command++) {
                if (!nextCommand()) {
                    break;
                }
            }
            return faulty ? place : NONE;
        }

        /** Reads the next command, if there is one without a fault. */
        boolean nextCommand() {
            skipSpaces();
            if (place >= length) {
                return false;
            }
            faulty = !readCommand();
            return !faulty;
        }

        // Each of the readers stops at the first character that is not allowed.

        private boolean readCommand() {
            what = readLetter();
            a = what == NONE ? NONE : readNumber();
            b = a == NONE ? NONE : readNumber();
            value = b == NONE ? NONE : readNumber();
            return value != NONE && readEnd();
        }

        private int readLetter() {
            int table;
            switch (here()) {
                case 'f':
                    table = 0;
                    break;
                case 'd':
                    table = 1;
                    break;
                case 'c':
                    table = 2;
                    break;
                default:
                    return NONE;
            }
            place++;
            return table;
        }

        private int readNumber() {
            skipSpaces();
            if (!isDigitHere()) {
                return NONE;
            }
            int number = here() - '0';
            place++;
            if (isDigitHere()) {
                number = 10 * number + here() - '0';
                place++;
            }
            return isDigitHere() ? NONE : number;
        }

        private boolean readEnd() {
            skipSpaces();
            if (here() != ';') {
                return false;
            }
            place++;
            return true;
        }

        private void skipSpaces() {
            while (place < length && here() == ' ') {
                place++;
            }
        }

        private boolean isDigitHere() {
            return here() >= '0' && here() <= '9';
        }

        /** Returns the code at the place, 0 behind the end. */
        private int here() {
            return place >= 0 && place < length && place < text.length ? text[place] : 0;
        }
    }
}
