import java.math.BigInteger;

/** The boundaries of scripts and undo: SCRIPTS, UNDO, EXCEPTIONS, promises 35 to 40. See EDGES.md. */
final class ScriptEdges extends Bench {
    private static final String SPACES = " ".repeat(120);

    private ScriptEdges() {
    }

    /** The fault of a text that was typed into a new object. */
    private static void fault(String text, int due) {
        AssignmentWorkbench x = new AssignmentWorkbench();
        write(x, text);
        same("the fault of '" + text + "'", due, x.fault());
        String outcome = Check.outcome(x::run);
        Check.same("run of '" + text + "'", due != -1, outcome.equals("throws." + Check.ARGUMENT));
    }

    // ---- SCRIPTS

    static void textHolds120Characters() {
        AssignmentWorkbench x = new AssignmentWorkbench();
        for (int length = 1; length <= 118; length++) {
            x.type(' ');
        }
        same("one less than the last", 119, x.type(' '));
        same("the last one", 120, x.type(';'));
        state("one more", x, () -> x.type(' '));
        same("the last one counts", 119, x.fault());
        same("all stand", 120, x.clearText());
    }

    static void codesFrom32To126() {
        AssignmentWorkbench x = new AssignmentWorkbench();
        argument("one less than the least", x, () -> x.type(31));
        same("the least", 1, x.type(32));
        same("one more", 2, x.type(33));
        same("one less than the greatest", 3, x.type(125));
        same("the greatest", 4, x.type(126));
        argument("one more than the greatest", x, () -> x.type(127));
        for (int code = 34; code <= 124; code++) {
            same("type(" + code + ")", code - 29, x.type(code));
        }
    }

    static void commandsPerhapsNone() {
        fault("", -1);
        fault(" ", -1);
        fault(SPACES, -1);
        fault("f0 1 2;", -1);
        fault("f0 1 2;d0 1 2;c0 1 2;", -1);
        fault(";", 0);
        fault("f0 1 2;;", 7);
        // 17 commands of seven characters, and one character
        fault("c1 1 1;".repeat(17) + " ", -1);
        fault("c1 1 1;".repeat(17) + "c", 120);
        fault("c1 1 1;".repeat(17) + ";", 119);
    }

    static void lettersAndWhatTheySet() {
        for (int code = 32; code <= 126; code++) {
            boolean letter = code == 'f' || code == 'd' || code == 'c';
            fault((char) code + "0 1 2;", letter ? -1 : code == ' ' ? 1 : 0);
        }
        AssignmentWorkbench x = new AssignmentWorkbench();
        write(x, "f0 2 5;d1 0 6;c2 1 7;");
        same("run", 3, x.run());
        same("f sets f(0, 2)", 5, x.get(FLOW, 0, 2));
        same("not f(2, 0)", 0, x.get(FLOW, 2, 0));
        same("d sets d(1, 0)", 6, x.get(DISTANCE, 1, 0));
        same("not d(0, 1)", 0, x.get(DISTANCE, 0, 1));
        same("c sets c(2, 1)", 7, x.get(COST, 2, 1));
        same("not c(1, 2)", 0, x.get(COST, 1, 2));
    }

    static void threeNumbersAndASemicolon() {
        fault("f;", 1);
        fault("f0;", 2);
        fault("f0 1;", 4);
        fault("f0 1 2;", -1);
        fault("f0 1 2 3;", 7);
        fault("f0 1 2", 6);
        fault("f0 1 2d0 1 2;", 6);
        fault("f0 1 2,", 6);
        fault("0 1 2;", 0);
        fault("ff0 1 2;", 1);
    }

    static void numberOf1Or2Digits() {
        fault("f0 0 0;", -1);
        fault("f9 9 9;", -1);
        fault("f00 00 00;", -1);
        fault("f99 99 99;", -1);
        fault("f000 0 0;", 3);
        fault("f0 100 0;", 5);
        fault("f0 0 999;", 7);
        fault("f0 0 ;", 5);
        fault("f/ 0 0;", 1);
        fault("f: 0 0;", 1);
        fault("f0/ 0 0;", 2);
        fault("f0: 0 0;", 2);
        fault("f00/ 0 0;", 3);
        fault("f-1 0 0;", 1);
        AssignmentWorkbench x = new AssignmentWorkbench();
        write(x, "f0 0 9;f00 01 10;f 2 02 99;f1 1 05;");
        same("run", 4, x.run());
        same("one digit", 9, x.get(FLOW, 0, 0));
        same("two digits", 10, x.get(FLOW, 0, 1));
        same("the greatest number", 99, x.get(FLOW, 2, 2));
        same("a digit behind 0", 5, x.get(FLOW, 1, 1));
    }

    static void digitsAsLongAsPossible() {
        // 12 is one number, and the third one is missing.
        fault("f12 3;", 5);
        fault("f1 23;", 5);
        fault("f1 2 34;", -1);
        fault("f123;", 3);
        fault("f1234;", 3);
    }

    static void spacesBeforeBetweenAndAfter() {
        fault(" f0 1 2;", -1);
        fault("f 0 1 2;", -1);
        fault("f0  1 2;", -1);
        fault("f0 1  2;", -1);
        fault("f0 1 2 ;", -1);
        fault("f0 1 2; ", -1);
        fault("f0 1 2; d0 1 2;", -1);
        fault("  f  0  1  2  ;  d  0  1  2  ;  ", -1);
        // A space ends a number: the next digit is another one.
        fault("f0 1 2 2;", 7);
        AssignmentWorkbench x = new AssignmentWorkbench();
        write(x, "  f  0  1  22  ;  d  0  1  3  ;  ");
        same("run", 2, x.run());
        same("the flow", 22, x.get(FLOW, 0, 1));
        same("the distance", 3, x.get(DISTANCE, 0, 1));
    }

    static void spacesNeededBetweenTwoNumbers() {
        fault("f11 2;", 5);
        fault("f1 1 2;", -1);
        fault("f112;", 3);
        fault("f11 22 33;", -1);
        fault("f1122 33;", 3);
        fault("f11 2233;", 6);
        fault("f0,1,2;", 2);
        fault("f0;1;2;", 2);
    }

    static void faultIsTheFirstNotAllowed() {
        fault("x", 0);
        fault(" x", 1);
        fault("xx", 0);
        fault("f0 1 2;x", 7);
        fault("f0 1 2; x", 8);
        fault("f0 1 2;xf0 1 2;x", 7);
        fault("fx 1 2;", 1);
        fault("f x 1 2;", 2);
        fault("f0x 1 2;", 2);
        fault("f0 x 2;", 3);
        fault("f0 1x2;", 4);
        fault("f0 1 x;", 5);
        fault("f0 1 2x", 6);
        fault("f0 1 2 x", 7);
        fault(SPACES.substring(0, 119) + "x", 119);
        fault("x" + SPACES.substring(0, 119), 0);
    }

    static void faultIsTheLengthIfItEndsTooEarly() {
        String text = " f 0 11 2 ;";
        for (int length = 2; length < text.length(); length++) {
            fault(text.substring(0, length), length);
        }
        fault(" ", -1);
        fault(text, -1);
        fault(text + "f", 12);
        fault(SPACES.substring(0, 118) + "f", 119);
        fault(SPACES.substring(0, 119) + "f", 120);
        // The last character that the text holds is not allowed: its index, not the length.
        fault(SPACES.substring(0, 119) + ";", 119);
    }

    static void faultWhateverTheIndices() {
        for (int n = 1; n <= 6; n++) {
            AssignmentWorkbench x = sized(n);
            write(x, "f0 0 1;f" + (n - 1) + " 0 1;f" + n + " 0 1;d0 " + n + " 1;c99 99 1;");
            same("the fault", -1, x.fault());
            same("run skips those from n on", 2, x.run());
        }
    }

    // ---- UNDO

    static void undoableRecordsProblemAssignmentAndFixing() {
        AssignmentWorkbench x = small();
        x.choose(3);
        x.fix(2, 1);
        write(x, "f0 0 50;");
        undoable("resize", x, () -> x.resize(6));
        undoable("set", x, () -> x.set(FLOW, 0, 0, 50));
        undoable("fill", x, () -> x.fill(DISTANCE, 5, 99, true));
        undoable("choose", x, () -> x.choose(1));
        undoable("exchange", x, () -> x.exchange(0, 1));
        undoable("descend", x, x::descend);
        undoable("fix", x, () -> x.fix(0, 0));
        undoable("free", x, () -> x.free(2));
        undoable("run", x, x::run);
        places("the assignment", x, ORDER[3]);
        same("the fixing", 1, x.fixed(2));
        same("the problem", 1, x.get(FLOW, 0, 0));
    }

    static void othersMakeNoRecord() {
        AssignmentWorkbench x = new AssignmentWorkbench();
        x.search(true, true);
        x.type('f');
        x.clearText();
        x.fault();
        x.gain(0, 1);
        x.within(5);
        x.mean(0);
        x.boundWith(0, 0);
        x.representative(1);
        x.checksum();
        state("no call that is not undoable", x, x::undo);
        Check.outcome(() -> x.resize(7));
        Check.outcome(() -> x.set(FLOW, 0, 0, 100));
        Check.outcome(() -> x.fill(FLOW, 0, 100, true));
        Check.outcome(() -> x.choose(6));
        Check.outcome(() -> x.exchange(0, 3));
        Check.outcome(() -> x.fix(0, 3));
        Check.outcome(() -> x.free(0));
        x.type('f');
        Check.outcome(x::run);
        state("no call that throws", x, x::undo);
        x.exchange(0, 0);
        same("a call that ends normally and changes nothing", 0, x.undo());
    }

    private static void recordsOf(int changes) {
        AssignmentWorkbench x = new AssignmentWorkbench();
        for (int value = 1; value <= changes; value++) {
            x.set(FLOW, 0, 0, value);
        }
        int kept = Math.min(6, changes);
        for (int left = kept - 1; left >= 0; left--) {
            same("undo of " + changes, left, x.undo());
            same("the flow", changes - kept + left, x.get(FLOW, 0, 0));
        }
        state("undo of one more than " + kept, x, x::undo);
        same("the oldest that is left", changes - kept, x.get(FLOW, 0, 0));
    }

    static void atMost6Records() {
        recordsOf(1);
        recordsOf(5);
        recordsOf(6);
    }

    static void oneMoreDropsTheOldest() {
        recordsOf(7);
        recordsOf(8);
        recordsOf(13);
        AssignmentWorkbench x = new AssignmentWorkbench();
        for (int value = 1; value <= 6; value++) {
            x.set(FLOW, 0, 0, value);
        }
        same("one of six", 5, x.undo());
        x.set(FLOW, 0, 0, 60);
        same("six again, and none was dropped", 5, x.undo());
        for (int left = 4; left >= 0; left--) {
            same("undo", left, x.undo());
        }
        same("the first", 0, x.get(FLOW, 0, 0));
    }

    static void undoRestoresAndRemovesTheLatest() {
        AssignmentWorkbench x = new AssignmentWorkbench();
        x.set(COST, 0, 0, 7);
        x.choose(4);
        x.fix(1, 2);
        x.resize(2);
        same("undo of resize", 3, x.undo());
        same("size", 3, x.size());
        same("the fixing", 2, x.fixed(1));
        same("undo of fix", 2, x.undo());
        same("no fixing", -1, x.fixed(1));
        same("the assignment", 4, x.number());
        same("undo of choose", 1, x.undo());
        same("the first assignment", 0, x.number());
        same("the cost", 7, x.cost());
        same("undo of set", 0, x.undo());
        same("no cost", 0, x.cost());
        state("none is left", x, x::undo);
    }

    // ---- EXCEPTIONS

    static void throwingChangesNothing() {
        AssignmentWorkbench x = small();
        x.search(true, false);
        x.choose(3);
        x.fix(1, 2);
        write(x, "f0 1 5;x");
        argument("resize", x, () -> x.resize(0));
        index("set", x, () -> x.set(FLOW, 3, 0, 1));
        argument("set", x, () -> x.set(FLOW, 0, 0, 100));
        argument("fill", x, () -> x.fill(FLOW, 1, 100, true));
        index("choose", x, () -> x.choose(6));
        index("exchange", x, () -> x.exchange(0, 3));
        index("fix", x, () -> x.fix(0, 3));
        state("fix, the location", x, () -> x.fix(0, 2));
        state("fix, the facility", x, () -> x.fix(1, 0));
        index("free", x, () -> x.free(3));
        state("free", x, () -> x.free(0));
        index("boundWith", x, () -> x.boundWith(0, 3));
        state("boundWith", x, () -> x.boundWith(0, 2));
        argument("found", x, () -> x.found(7));
        argument("type", x, () -> x.type(127));
        argument("run", x, x::run);
        // The records stay, too: the latest is that of fix.
        same("undo", 5, x.undo());
        same("the fixing before fix", -1, x.fixed(1));
        places("the assignment", x, ORDER[3]);
        AssignmentWorkbench y = new AssignmentWorkbench();
        state("undo", y, y::undo);
        write(y, SPACES);
        state("type", y, () -> y.type(' '));
    }

    static void theFirstListedIsThrown() {
        AssignmentWorkbench x = small();
        x.fix(1, 2);
        index("set, all out of range", x, () -> x.set(3, 3, 3, 100));
        index("set, a and what", x, () -> x.set(3, -1, 0, 1));
        index("set, b and what", x, () -> x.set(-1, 0, 3, 1));
        index("set, b and value", x, () -> x.set(0, 0, 3, 100));
        argument("set, what and value alone", x, () -> x.set(3, 2, 2, 100));
        index("get, a and what", x, () -> x.get(3, 3, 0));
        index("get, b and what", x, () -> x.get(-1, 0, -1));
        argument("get, what alone", x, () -> x.get(3, 2, 2));
        index("fix, no such location for a fixed facility", x, () -> x.fix(1, 3));
        index("fix, no such facility for a fixed location", x, () -> x.fix(3, 2));
        state("fix, a fixed facility alone", x, () -> x.fix(1, 1));
        index("entry, no such location for a fixed facility", x, () -> x.entry(1, -1));
        index("entry, no such facility for a fixed location", x, () -> x.entry(-1, 2));
        state("entry, a fixed location alone", x, () -> x.entry(2, 2));
        index("boundWith, no such location for a fixed facility", x, () -> x.boundWith(1, 3));
        index("boundWith, no such facility for a fixed location", x, () -> x.boundWith(3, 2));
        state("boundWith, a fixed facility alone", x, () -> x.boundWith(1, 0));
        AssignmentWorkbench y = new AssignmentWorkbench();
        write(y, SPACES);
        argument("type, no such code into a full text", y, () -> y.type(127));
        argument("type, no such code, too low, into a full text", y, () -> y.type(31));
        state("type, a full text alone", y, () -> y.type(126));
    }

    static void noneOnlyWithoutAnException() {
        AssignmentWorkbench x = new AssignmentWorkbench();
        argument("found, no such result before a search", x, () -> x.found(7));
        same("found, before a search alone", -1, x.found(6));
        argument("nodes, out of range before a search", x, () -> x.nodes(7));
        same("nodes, before a search alone", -1, x.nodes(6));
        index("fixed, no such facility, and none is fixed", x, () -> x.fixed(3));
        same("fixed, none is fixed alone", -1, x.fixed(2));
    }

    // ---- promise 35: type

    static void typeTakes32To126() {
        AssignmentWorkbench x = new AssignmentWorkbench();
        range("type", Check.ARGUMENT, x, 32, 126, x::type);
        argument("a code whose low bits are allowed", x, () -> x.type(65536 + ' '));
        x.clearText();
        write(x, "f0 1 99;");
        same("the characters stand in their order", 1, x.run());
        same("the number", 99, x.get(FLOW, 0, 1));
    }

    static void typeAnswersTheLength() {
        AssignmentWorkbench x = new AssignmentWorkbench();
        for (int length = 1; length <= 120; length++) {
            same("type", length, x.type('~'));
        }
        x.clearText();
        same("after clearText", 1, x.type('~'));
    }

    static void typeThrowsArgument() {
        AssignmentWorkbench x = new AssignmentWorkbench();
        argument("31", x, () -> x.type(31));
        argument("127", x, () -> x.type(127));
        argument("-1", x, () -> x.type(-1));
        argument("LOW", x, () -> x.type(LOW));
        argument("HIGH", x, () -> x.type(HIGH));
        takes("32", () -> x.type(32));
        takes("126", () -> x.type(126));
    }

    static void typeThrowsIfThereAre120() {
        AssignmentWorkbench x = new AssignmentWorkbench();
        write(x, SPACES.substring(0, 119));
        takes("the 120th", () -> x.type('f'));
        state("the 121st", x, () -> x.type('f'));
        state("the 121st, another one", x, () -> x.type(126));
        x.clearText();
        takes("the first", () -> x.type('f'));
    }

    // ---- promise 36: clearText

    static void clearTextAnswersTheLength() {
        AssignmentWorkbench x = new AssignmentWorkbench();
        same("empty", 0, x.clearText());
        x.type('f');
        same("one character", 1, x.clearText());
        same("empty again", 0, x.clearText());
        same("a script of no command", -1, x.fault());
        write(x, SPACES);
        same("full", 120, x.clearText());
        same("from the start", 1, x.type(';'));
        same("nothing of the old text", 0, x.fault());
        write(x, "f0 1 2;");
        write(x, "f0 1 2");
        same("not the old text's last character, either", 6, x.fault());
    }

    // ---- promise 37: fault

    static void faultIsNoneForAScript() {
        AssignmentWorkbench x = new AssignmentWorkbench();
        only("the empty text", x, -1, x::fault);
        x.type('f');
        only("one character", x, 1, x::fault);
        write(x, "f0 1 2");
        only("one less than a script", x, 6, x::fault);
        x.type(';');
        only("a script", x, -1, x::fault);
        x.type(';');
        only("one more than a script", x, 7, x::fault);
        write(x, ";");
        only("the index 0", x, 0, x::fault);
        x.clearText();
        only("the empty text after a fault", x, -1, x::fault);
    }

    // ---- promise 38: run

    static void runSkipsIndicesFromN() {
        for (int n = 1; n <= 6; n++) {
            AssignmentWorkbench x = sized(n);
            String last = Integer.toString(n - 1);
            String behind = Integer.toString(n);
            write(x, "f" + last + " 0 1;d0 " + last + " 2;c" + last + " " + last + " 3;");
            same("the last indices", 3, x.run());
            same("the flow", 1, x.get(FLOW, n - 1, 0));
            same("the distance", 2, x.get(DISTANCE, 0, n - 1));
            same("the cost", 3, x.get(COST, n - 1, n - 1));
            write(x, "f" + behind + " 0 4;d0 " + behind + " 5;c" + behind + " " + behind + " 6;");
            long before = x.checksum();
            same("one more", 0, x.run());
            x.undo();
            same("nothing is set", before, x.checksum());
            write(x, "f99 0 7;f0 0 8;c0 10 9;");
            same("the one between them", 1, x.run());
            same("the flow of 0", 8, x.get(FLOW, 0, 0));
        }
    }

    static void runKeepsTheText() {
        AssignmentWorkbench x = new AssignmentWorkbench();
        write(x, "f0 1 5;");
        same("run", 1, x.run());
        same("run once more", 1, x.run());
        same("the text", 7, x.clearText());
        same("the record of the second run", 1, x.undo());
        same("the flow of the first", 5, x.get(FLOW, 0, 1));
        same("the record of the first", 0, x.undo());
        same("no flow", 0, x.get(FLOW, 0, 1));
    }

    static void runIsOneChangeInAnyCase() {
        AssignmentWorkbench x = new AssignmentWorkbench();
        undoable("no command", x, x::run);
        write(x, "f3 0 1;d0 3 1;");
        undoable("all are skipped", x, x::run);
        write(x, "f0 0 1;");
        undoable("one command", x, x::run);
        write(x, "f0 0 1;f0 1 2;f0 2 3;f1 0 4;f1 1 5;f1 2 6;f2 0 7;");
        undoable("more commands than records", x, x::run);
        same("more commands than records", 7, x.run());
        same("one record", 0, x.undo());
        same("all are undone", 0, x.get(FLOW, 0, 0) + x.get(FLOW, 2, 0));
    }

    static void runAnswersHowMany() {
        AssignmentWorkbench x = new AssignmentWorkbench();
        same("the empty text", 0, x.run());
        write(x, "   ");
        same("spaces", 0, x.run());
        write(x, "f0 1 5;");
        same("one", 1, x.run());
        write(x, "f0 1 5;f3 1 5;");
        same("one of two", 1, x.run());
        write(x, "c1 1 1;".repeat(17) + " ");
        same("as many as there is room for", 17, x.run());
        write(x, "f0 1 5;f0 1 6;");
        same("two, the same number twice", 2, x.run());
        same("the later one stands", 6, x.get(FLOW, 0, 1));
    }

    static void runThrowsArgument() {
        AssignmentWorkbench x = new AssignmentWorkbench();
        takes("no fault", x::run);
        write(x, "f0 1 5;f0 1 6");
        argument("a fault at the end", x, x::run);
        x.type(';');
        takes("no fault any more", x::run);
        write(x, ";");
        argument("a fault at the start", x, x::run);
        write(x, "f0 1 7;x");
        argument("a fault behind a command", x, x::run);
        same("no command was carried out", 6, x.get(FLOW, 0, 1));
    }

    // ---- promise 39: undo

    static void undoAnswersHowManyAreLeft() {
        AssignmentWorkbench x = new AssignmentWorkbench();
        for (int change = 1; change <= 7; change++) {
            x.exchange(0, 1);
        }
        for (int left = 5; left >= 0; left--) {
            same("undo", left, x.undo());
        }
        x.exchange(0, 1);
        x.exchange(0, 1);
        same("one of two", 1, x.undo());
        same("the last one", 0, x.undo());
    }

    static void undoThrowsIfThereIsNone() {
        AssignmentWorkbench x = new AssignmentWorkbench();
        state("none was made", x, x::undo);
        x.resize(4);
        takes("one was made", x::undo);
        state("none is left", x, x::undo);
        state("none is left, still", x, x::undo);
        for (int change = 1; change <= 7; change++) {
            x.choose(change % 6);
        }
        for (int left = 5; left >= 0; left--) {
            takes("the latest of six", x::undo);
        }
        state("the seventh was dropped", x, x::undo);
    }

    // ---- promise 40: checksum

    private static long sum(long... numbers) {
        long h = 18459;
        for (long v : numbers) {
            h = 31 * h + v;
        }
        return h;
    }

    static void checksumStartsWith18459() {
        AssignmentWorkbench x = sized(1);
        // n, three numbers, the location, fixed, cost, bound, branchOn, symmetries, seven results
        only("of one facility", x, sum(1, 0, 0, 0, 0, -1, 0, 0, 0, 1,
                -1, -1, -1, -1, -1, -1, -1, 0, 1), x::checksum);
        table(x, FLOW, new int[][] {{3}});
        table(x, DISTANCE, new int[][] {{5}});
        table(x, COST, new int[][] {{4}});
        x.type('x');
        x.type('x');
        x.fix(0, 0);
        x.search(true, false);
        only("of all that there is", x, sum(1, 3, 5, 4, 0, 0, 19, 19, -1, 1,
                19, 0, 1, 0, 1, 1, 1, 2, 5), x::checksum);
        x.exchange(0, 0);
        x.exchange(0, 0);
        only("with six records", x, sum(1, 3, 5, 4, 0, 0, 19, 19, -1, 1,
                19, 0, 1, 0, 1, 1, 1, 2, 6), x::checksum);
        AssignmentWorkbench y = sized(2);
        table(y, FLOW, new int[][] {{1, 2}, {3, 4}});
        table(y, DISTANCE, new int[][] {{5, 6}, {7, 8}});
        table(y, COST, new int[][] {{9, 10}, {11, 12}});
        y.fix(1, 0);
        y.choose(1);
        // 1 * 8 + 2 * 7 + 3 * 6 + 4 * 5 + 10 + 11, and the bound of the only one that agrees
        only("row by row", y, sum(2, 1, 2, 3, 4, 5, 6, 7, 8, 9, 10, 11, 12, 1, 0, -1, 0,
                81, 81, 0, 1, -1, -1, -1, -1, -1, -1, -1, 0, 6), y::checksum);
    }

    static void checksumWraps() {
        // 31 to the power of 13 does not go into a long: so many numbers follow the first ones.
        AssignmentWorkbench x = new AssignmentWorkbench();
        BigInteger h = BigInteger.valueOf(18459);
        int[] numbers = new int[47];
        numbers[0] = 3;
        int[] rest = {0, 1, 2, -1, -1, -1, 0, 0, 0, 6, -1, -1, -1, -1, -1, -1, -1, 0, 0};
        System.arraycopy(rest, 0, numbers, 28, rest.length);
        for (int v : numbers) {
            h = h.multiply(BigInteger.valueOf(31)).add(BigInteger.valueOf(v));
        }
        Check.holds("the number does not go into a long", h.bitLength() > 63);
        only("its low bits", x, h.longValue(), x::checksum);
    }
}
