import java.util.ArrayList;
import java.util.Arrays;
import java.util.Collections;
import java.util.Comparator;
import java.util.List;
import java.util.regex.Matcher;
import java.util.regex.Pattern;

/**
 * The document once more, word by word and without regard to speed: the tests compare the
 * workbench with it. It shares no code and few ways with the workbench.
 */
final class NaiveWorkbench {
    private static final Pattern SCRIPT =
            Pattern.compile("( *[fdc] *[0-9]{1,2} +[0-9]{1,2} +[0-9]{1,2} *;)* *");
    private static final Pattern COMMAND =
            Pattern.compile("([fdc]) *([0-9]{1,2}) +([0-9]{1,2}) +([0-9]{1,2}) *;");

    /** What a record holds. */
    private static final class Moment {
        int n = 3;
        int[][][] tables = new int[3][3][3];
        List<Integer> current = new ArrayList<>(List.of(0, 1, 2));
        List<Integer> fixing = new ArrayList<>(List.of(-1, -1, -1));

        Moment copy() {
            Moment other = new Moment();
            other.n = n;
            other.tables = new int[3][n][];
            for (int what = 0; what < 3; what++) {
                for (int a = 0; a < n; a++) {
                    other.tables[what][a] = tables[what][a].clone();
                }
            }
            other.current = new ArrayList<>(current);
            other.fixing = new ArrayList<>(fixing);
            return other;
        }
    }

    private Moment now = new Moment();
    private final List<Moment> records = new ArrayList<>();
    private String text = "";
    private int[] found;
    private int[] nodes;

    // ---- words of the description

    private static List<List<Integer>> permutations(List<Integer> of) {
        List<List<Integer>> all = new ArrayList<>();
        if (of.isEmpty()) {
            all.add(new ArrayList<>());
        }
        for (Integer first : of) {
            List<Integer> others = new ArrayList<>(of);
            others.remove(first);
            for (List<Integer> rest : permutations(others)) {
                rest.add(0, first);
                all.add(rest);
            }
        }
        return all;
    }

    private List<List<Integer>> assignments() {
        List<Integer> locations = new ArrayList<>();
        for (int k = 0; k < now.n; k++) {
            locations.add(k);
        }
        return permutations(locations);
    }

    private int f(int i, int j) {
        return now.tables[0][i][j];
    }

    private int d(int k, int l) {
        return now.tables[1][k][l];
    }

    private int c(int i, int k) {
        return now.tables[2][i][k];
    }

    private int costOf(List<Integer> p) {
        int cost = 0;
        for (int i = 0; i < now.n; i++) {
            cost += c(i, p.get(i));
            for (int j = 0; j < now.n; j++) {
                cost += f(i, j) * d(p.get(i), p.get(j));
            }
        }
        return cost;
    }

    private static boolean agrees(List<Integer> p, List<Integer> fixing) {
        for (int i = 0; i < p.size(); i++) {
            if (fixing.get(i) != -1 && !fixing.get(i).equals(p.get(i))) {
                return false;
            }
        }
        return true;
    }

    private List<List<Integer>> agreeing() {
        List<List<Integer>> all = new ArrayList<>();
        for (List<Integer> p : assignments()) {
            if (agrees(p, now.fixing)) {
                all.add(p);
            }
        }
        return all;
    }

    private static List<Integer> freeFacilities(List<Integer> fixing) {
        List<Integer> free = new ArrayList<>();
        for (int i = 0; i < fixing.size(); i++) {
            if (fixing.get(i) == -1) {
                free.add(i);
            }
        }
        return free;
    }

    private static List<Integer> freeLocations(List<Integer> fixing) {
        List<Integer> free = new ArrayList<>();
        for (int k = 0; k < fixing.size(); k++) {
            if (!fixing.contains(k)) {
                free.add(k);
            }
        }
        return free;
    }

    private int partOf(List<Integer> fixing) {
        int cost = 0;
        for (int i = 0; i < now.n; i++) {
            for (int j = 0; j < now.n; j++) {
                if (fixing.get(i) != -1 && fixing.get(j) != -1) {
                    cost += f(i, j) * d(fixing.get(i), fixing.get(j));
                }
            }
            if (fixing.get(i) != -1) {
                cost += c(i, fixing.get(i));
            }
        }
        return cost;
    }

    private int entryOf(List<Integer> fixing, int i, int k) {
        int entry = c(i, k) + f(i, i) * d(k, k);
        for (int j = 0; j < now.n; j++) {
            if (fixing.get(j) != -1) {
                int l = fixing.get(j);
                entry += f(i, j) * d(k, l) + f(j, i) * d(l, k);
            }
        }
        List<Integer> flows = new ArrayList<>();
        for (int j : freeFacilities(fixing)) {
            if (j != i) {
                flows.add(f(i, j));
            }
        }
        List<Integer> distances = new ArrayList<>();
        for (int l : freeLocations(fixing)) {
            if (l != k) {
                distances.add(d(k, l));
            }
        }
        Collections.sort(flows);
        distances.sort(Collections.reverseOrder());
        for (int t = 0; t < flows.size(); t++) {
            entry += flows.get(t) * distances.get(t);
        }
        return entry;
    }

    private int boundOf(List<Integer> fixing) {
        List<Integer> facilities = freeFacilities(fixing);
        int[][] entries = new int[now.n][now.n];
        for (int i : facilities) {
            for (int k : freeLocations(fixing)) {
                entries[i][k] = entryOf(fixing, i, k);
            }
        }
        int least = Integer.MAX_VALUE;
        for (List<Integer> p : permutations(freeLocations(fixing))) {
            int sum = 0;
            for (int a = 0; a < p.size(); a++) {
                sum += entries[facilities.get(a)][p.get(a)];
            }
            least = Math.min(least, sum);
        }
        return partOf(fixing) + least;
    }

    private int regretOf(List<Integer> fixing, int i) {
        List<Integer> entries = new ArrayList<>();
        for (int k : freeLocations(fixing)) {
            entries.add(entryOf(fixing, i, k));
        }
        Collections.sort(entries);
        return entries.size() == 1 ? 1000000 : entries.get(1) - entries.get(0);
    }

    private int branchOf(List<Integer> fixing) {
        int best = -1;
        for (int i : freeFacilities(fixing)) {
            if (best == -1 || regretOf(fixing, i) > regretOf(fixing, best)) {
                best = i;
            }
        }
        return best;
    }

    private boolean isSymmetry(List<Integer> s) {
        for (int k = 0; k < now.n; k++) {
            for (int l = 0; l < now.n; l++) {
                if (d(s.get(k), s.get(l)) != d(k, l) || c(l, s.get(k)) != c(l, k)) {
                    return false;
                }
            }
        }
        return true;
    }

    private List<List<Integer>> keeping(List<Integer> fixing) {
        List<List<Integer>> all = new ArrayList<>();
        for (List<Integer> s : assignments()) {
            boolean keeps = true;
            for (int k : fixing) {
                keeps &= k == -1 || s.get(k) == k;
            }
            if (keeps && isSymmetry(s)) {
                all.add(s);
            }
        }
        return all;
    }

    private static int representativeOf(List<List<Integer>> symmetries, int k) {
        int lowest = k;
        for (List<Integer> s : symmetries) {
            lowest = Math.min(lowest, Math.min(s.get(k), s.indexOf(k)));
        }
        return lowest;
    }

    private static List<Integer> exchanged(List<Integer> p, int one, int other) {
        List<Integer> q = new ArrayList<>(p);
        Collections.swap(q, one, other);
        return q;
    }

    private int gainOf(List<Integer> p, int one, int other) {
        return costOf(p) - costOf(exchanged(p, one, other));
    }

    private void record() {
        records.add(now.copy());
        if (records.size() > 6) {
            records.remove(0);
        }
    }

    private void index(int... indices) {
        for (int index : indices) {
            if (index < 0 || index >= now.n) {
                throw new IndexOutOfBoundsException();
            }
        }
    }

    private static void argument(boolean fine) {
        if (!fine) {
            throw new IllegalArgumentException();
        }
    }

    private static void state(boolean fine) {
        if (!fine) {
            throw new IllegalStateException();
        }
    }

    // ---- the face

    int resize(int n) {
        argument(n >= 1 && n <= 6);
        record();
        int before = now.n;
        now = new Moment();
        now.n = n;
        now.tables = new int[3][n][n];
        now.current.clear();
        now.fixing.clear();
        for (int i = 0; i < n; i++) {
            now.current.add(i);
            now.fixing.add(-1);
        }
        return before;
    }

    int size() {
        return now.n;
    }

    int set(int what, int a, int b, int value) {
        index(a, b);
        argument(what >= 0 && what <= 2 && value >= 0 && value <= 99);
        record();
        int before = now.tables[what][a][b];
        now.tables[what][a][b] = value;
        return before;
    }

    int get(int what, int a, int b) {
        index(a, b);
        argument(what >= 0 && what <= 2);
        return now.tables[what][a][b];
    }

    int fill(int what, int start, int limit, boolean symmetric) {
        argument(what >= 0 && what <= 2 && start >= 0 && limit >= 0 && limit <= 99);
        record();
        long x = start;
        int[][] table = now.tables[what];
        for (int[] row : table) {
            for (int b = 0; b < row.length; b++) {
                x = (1103515245L * x + 12345) % (1L << 31);
                row[b] = (int) (x / 65536 % (limit + 1));
            }
        }
        int sum = 0;
        for (int a = 0; a < now.n; a++) {
            for (int b = 0; b < now.n; b++) {
                if (symmetric) {
                    table[a][b] = a == b ? 0 : table[Math.min(a, b)][Math.max(a, b)];
                }
                sum += table[a][b];
            }
        }
        return sum;
    }

    int location(int facility) {
        index(facility);
        return now.current.get(facility);
    }

    int cost() {
        return costOf(now.current);
    }

    int choose(int number) {
        if (number < 0 || number >= assignments().size()) {
            throw new IndexOutOfBoundsException();
        }
        record();
        now.current = assignments().get(number);
        return cost();
    }

    int number() {
        return assignments().indexOf(now.current);
    }

    int exchange(int one, int other) {
        index(one, other);
        int won = gainOf(now.current, one, other);
        record();
        now.current = exchanged(now.current, one, other);
        return won;
    }

    int gain(int one, int other) {
        index(one, other);
        return gainOf(now.current, one, other);
    }

    int bestExchange() {
        int best = -1;
        int most = 0;
        for (int i : freeFacilities(now.fixing)) {
            for (int j : freeFacilities(now.fixing)) {
                if (i < j && (best == -1 || gainOf(now.current, i, j) > most)) {
                    best = 10 * i + j;
                    most = gainOf(now.current, i, j);
                }
            }
        }
        return best;
    }

    int descend() {
        record();
        int made = 0;
        int best = bestExchange();
        while (best != -1 && gainOf(now.current, best / 10, best % 10) > 0) {
            now.current = exchanged(now.current, best / 10, best % 10);
            made++;
            best = bestExchange();
        }
        return made;
    }

    int within(int limit) {
        int count = 0;
        for (List<Integer> p : agreeing()) {
            count += costOf(p) <= limit ? 1 : 0;
        }
        return count;
    }

    int optimum() {
        int least = Integer.MAX_VALUE;
        for (List<Integer> p : agreeing()) {
            least = Math.min(least, costOf(p));
        }
        return least;
    }

    int optima() {
        return within(optimum());
    }

    int optimal(int k) {
        int least = optimum();
        List<List<Integer>> best = new ArrayList<>();
        for (List<Integer> p : agreeing()) {
            if (costOf(p) == least) {
                best.add(p);
            }
        }
        return k >= 0 && k < best.size() ? assignments().indexOf(best.get(k)) : -1;
    }

    int mean(int part) {
        argument(part == 0 || part == 1);
        int sum = 0;
        for (List<Integer> p : agreeing()) {
            sum += costOf(p);
        }
        int top = sum;
        int bottom = agreeing().size();
        for (int divisor = 2; divisor <= bottom; divisor++) {
            while (top % divisor == 0 && bottom % divisor == 0) {
                top /= divisor;
                bottom /= divisor;
            }
        }
        return part == 0 ? top : bottom;
    }

    int localOptima() {
        int count = 0;
        for (List<Integer> p : agreeing()) {
            boolean local = true;
            for (int i : freeFacilities(now.fixing)) {
                for (int j : freeFacilities(now.fixing)) {
                    local = local && gainOf(p, i, j) <= 0;
                }
            }
            count += local ? 1 : 0;
        }
        return count;
    }

    int fix(int facility, int location) {
        index(facility, location);
        state(now.fixing.get(facility) == -1 && !now.fixing.contains(location));
        record();
        now.fixing.set(facility, location);
        return now.n - freeFacilities(now.fixing).size();
    }

    int free(int facility) {
        index(facility);
        state(now.fixing.get(facility) != -1);
        record();
        return now.fixing.set(facility, -1);
    }

    int fixed(int facility) {
        index(facility);
        return now.fixing.get(facility);
    }

    int fixedCost() {
        return partOf(now.fixing);
    }

    int entry(int facility, int location) {
        index(facility, location);
        state(now.fixing.get(facility) == -1 && !now.fixing.contains(location));
        return entryOf(now.fixing, facility, location);
    }

    int bound() {
        return boundOf(now.fixing);
    }

    int boundWith(int facility, int location) {
        index(facility, location);
        state(now.fixing.get(facility) == -1 && !now.fixing.contains(location));
        List<Integer> more = new ArrayList<>(now.fixing);
        more.set(facility, location);
        return boundOf(more);
    }

    int regret(int facility) {
        index(facility);
        state(now.fixing.get(facility) == -1);
        return regretOf(now.fixing, facility);
    }

    int branchOn() {
        return branchOf(now.fixing);
    }

    int symmetries() {
        return keeping(now.fixing).size();
    }

    int representative(int location) {
        index(location);
        return representativeOf(keeping(now.fixing), location);
    }

    /** A node with its bound and its m. */
    private final class Node {
        final List<Integer> fixing;
        final int bound;
        final int m;

        Node(List<Integer> fixing) {
            this.fixing = fixing;
            bound = boundOf(fixing);
            m = freeFacilities(fixing).size();
        }
    }

    private List<Node> childrenOf(Node node, boolean symmetric) {
        int facility = branchOf(node.fixing);
        List<Integer> locations = freeLocations(node.fixing);
        locations.sort(Comparator.comparingInt(k -> entryOf(node.fixing, facility, k)));
        List<List<Integer>> kept = symmetric ? keeping(node.fixing) : List.of();
        List<Node> children = new ArrayList<>();
        for (int k : locations) {
            if (!symmetric || representativeOf(kept, k) == k) {
                List<Integer> more = new ArrayList<>(node.fixing);
                more.set(facility, k);
                children.add(new Node(more));
            }
        }
        return children;
    }

    /** Counts a node, and tells whether its children are wanted. */
    private boolean meet(Node node) {
        found[2]++;
        nodes[now.n - node.m]++;
        if (node.bound >= found[0]) {
            found[3]++;
            return false;
        }
        if (node.m == 0) {
            found[0] = node.bound;
            found[1] = assignments().indexOf(node.fixing);
            found[4]++;
            return false;
        }
        return true;
    }

    private void dive(Node node, boolean symmetric) {
        if (meet(node)) {
            for (Node child : childrenOf(node, symmetric)) {
                dive(child, symmetric);
            }
        }
    }

    int search(boolean bestFirst, boolean symmetric) {
        found = new int[] {1000000, -1, 0, 0, 0, 0, now.n};
        nodes = new int[7];
        Node root = new Node(now.fixing);
        if (!bestFirst) {
            dive(root, symmetric);
            return found[2];
        }
        List<Node> list = new ArrayList<>(List.of(root));
        while (!list.isEmpty()) {
            found[5] = Math.max(found[5], list.size());
            // The first of the least ones, as min keeps the earlier of equal ones.
            Node node = Collections.min(list, Comparator.<Node>comparingInt(a -> a.bound)
                    .thenComparingInt(a -> a.m));
            list.remove(node);
            if (meet(node)) {
                list.addAll(childrenOf(node, symmetric));
            }
        }
        return found[2];
    }

    int found(int what) {
        argument(what >= 0 && what <= 6);
        return found == null ? -1 : found[what];
    }

    int nodes(int pairs) {
        argument(pairs >= 0 && pairs <= 6);
        return nodes == null ? -1 : nodes[pairs];
    }

    int type(int c) {
        argument(c >= 32 && c <= 126);
        state(text.length() < 120);
        text += (char) c;
        return text.length();
    }

    int clearText() {
        int before = text.length();
        text = "";
        return before;
    }

    int fault() {
        if (SCRIPT.matcher(text).matches()) {
            return -1;
        }
        for (int i = 0; i < text.length(); i++) {
            Matcher matcher = SCRIPT.matcher(text.substring(0, i + 1));
            if (!matcher.matches() && !matcher.hitEnd()) {
                return i;
            }
        }
        return text.length();
    }

    int run() {
        argument(fault() == -1);
        record();
        int done = 0;
        Matcher command = COMMAND.matcher(text);
        while (command.find()) {
            int a = Integer.parseInt(command.group(2));
            int b = Integer.parseInt(command.group(3));
            if (a < now.n && b < now.n) {
                now.tables["fdc".indexOf(command.group(1))][a][b] = Integer.parseInt(command.group(4));
                done++;
            }
        }
        return done;
    }

    int undo() {
        state(!records.isEmpty());
        now = records.remove(records.size() - 1);
        return records.size();
    }

    long checksum() {
        List<Integer> numbers = new ArrayList<>(List.of(now.n));
        for (int[][] table : now.tables) {
            for (int[] row : table) {
                for (int v : row) {
                    numbers.add(v);
                }
            }
        }
        numbers.addAll(now.current);
        numbers.addAll(now.fixing);
        numbers.addAll(Arrays.asList(cost(), bound(), branchOn(), symmetries()));
        for (int what = 0; what < 7; what++) {
            numbers.add(found(what));
        }
        numbers.add(text.length());
        numbers.add(records.size());
        long h = 18459;
        for (int v : numbers) {
            h = 31 * h + v;
        }
        return h;
    }
}
