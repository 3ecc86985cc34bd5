/**
 * What the calls that change nothing tell of a workbench, as a text. An object serves for 512
 * calls, so this takes no more of them than it needs: the checksum holds the problem, the
 * assignment, the fixing, the results, the length of the text and the number of records.
 */
final class Glimpse {
    private Glimpse() {
    }

    static String of(AssignmentWorkbench x) {
        StringBuilder out = new StringBuilder("sum ");
        out.append(x.checksum()).append(" fault ").append(x.fault()).append(" nodes");
        for (int pairs = 0; pairs < 7; pairs++) {
            out.append(' ').append(x.nodes(pairs));
        }
        return out.toString();
    }
}
