/** All that the calls which change nothing tell of a workbench, as a text. */
final class Glimpse {
    private Glimpse() {
    }

    static String of(AssignmentWorkbench x) {
        StringBuilder out = new StringBuilder();
        int n = x.size();
        out.append("n ").append(n);
        for (int what = 0; what < 3; what++) {
            out.append(" table");
            for (int a = 0; a < n; a++) {
                for (int b = 0; b < n; b++) {
                    out.append(' ').append(x.get(what, a, b));
                }
            }
        }
        out.append(" places");
        for (int i = 0; i < n; i++) {
            out.append(' ').append(x.location(i)).append('/').append(x.fixed(i));
        }
        out.append(" found");
        for (int what = 0; what < 7; what++) {
            out.append(' ').append(x.found(what)).append('/').append(x.nodes(what));
        }
        // The checksum holds the length of the text and the number of records.
        return out.append(" fault ").append(x.fault()).append(" sum ").append(x.checksum()).toString();
    }
}
