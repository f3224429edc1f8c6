/** The bounds of Terms 4, and of promise 10, sentence by sentence. */
public final class EdgeOrderTest {
    public static void main(String[] args) {
        readsWhatThatWrites();
        writesWhatThatReads();
        writesWhatThatWrites();
        bothAreCalls();
        needsNothing();
        heightWithoutAny();
        heightOfTheGreatest();
        heightByLatencies();
        ofSeveralTheFirst();
        allThatTheyNeed();
        eachBlockForItself();
        takenAway();
        chosenNone();
        chosenBounds();
        Due.end();
    }

    private static void readsWhatThatWrites() {
        Due.says("if it reads what that writes");
        SpillslotWorks x = Told.program(0, "0: v0 = 5", "0: v2 = v3 - v0", "0: v6 = v4 * v4");
        Told.lines("as its second one", x, "e: 3 = LI n0 h0", "e: 4 = LI n0 h0",
                "0: 6 = MUL 4 4 h3", "0: 0 = LI n5 h2", "0: 2 = SUB 3 0 h1");
        SpillslotWorks y = Told.program(0, "0: v0 = v1", "0: v2 = v3 * v4 + v0");
        Told.lines("as its third one", y, "e: 1 = LI n0 h0", "e: 3 = LI n0 h0",
                "e: 4 = LI n0 h0", "0: 0 = MOVE 1 h4", "0: 2 = FUSE 3 4 0 h3");
    }

    private static void writesWhatThatReads() {
        Due.says("or writes what that reads or writes");
        SpillslotWorks x = Told.program(0, "0: v0 = v1 - v2", "0: v2 = v3 * v3");
        Told.lines("the second one of that", x, "e: 1 = LI n0 h0", "e: 2 = LI n0 h0",
                "e: 3 = LI n0 h0", "0: 0 = SUB 1 2 h4", "0: 2 = MUL 3 3 h3");
        SpillslotWorks y = Told.program(0, "0: v0 = v4 * v5 + v6", "0: v6 = c(v1, v1)");
        Told.lines("the third one of that", y, "e: 1 = LI n0 h0", "e: 4 = LI n0 h0",
                "e: 5 = LI n0 h0", "e: 6 = LI n0 h0", "0: 0 = FUSE 4 5 6 h8",
                "0: 6 = CALL 1 1 h5");
    }

    private static void writesWhatThatWrites() {
        Due.says("or writes what that reads or writes");
        SpillslotWorks x = Told.program(1, "0: v0 = 5", "0: v0 = v1 * v1", "0: v2 = v3 * v3");
        Told.lines("both write v0", x, "e: 1 = LI n0 h0", "e: 3 = LI n0 h0", "0: 0 = LI n5 h4",
                "0: 0 = MUL 1 1 h3", "0: 2 = MUL 3 3 h3");
        Due.is("the last one counts", x.answer(0), 0);
    }

    private static void bothAreCalls() {
        Due.says("or if both are CALLS");
        SpillslotWorks x = Told.program(0, "0: v0 = c(v1, v1)", "0: v2 = c(v3, v3)",
                "0: v4 = v2 * v2 * v2 * v2", "0: v5 = v1 * v1");
        Told.lines("the first CALL stays the first, and is higher by 5", x, "e: 1 = LI n0 h0",
                "e: 3 = LI n0 h0", "0: 0 = CALL 1 1 h19", "0: 2 = CALL 3 3 h14",
                "0: 8 = MUL 2 2 h9", "0: 9 = MUL 8 2 h6", "0: 4 = MUL 9 2 h3",
                "0: 5 = MUL 1 1 h3");
    }

    private static void needsNothing() {
        Due.says("an instruction needs one ahead of it there");
        SpillslotWorks x = Told.program(0, "0: v0 = v1 + v2", "0: v3 = v1 * v2",
                "0: v4 = c(v1, v2)");
        Told.lines("those that read the same are free", x, "e: 1 = LI n0 h0", "e: 2 = LI n0 h0",
                "0: 4 = CALL 1 2 h5", "0: 3 = MUL 1 2 h3", "0: 0 = ADD 1 2 h1");
    }

    private static void heightWithoutAny() {
        Due.says("(0 without any)");
        SpillslotWorks x = Told.program(0, "0: v0 = 5", "1: v1 = v2", "2: v3 = v2 - v1",
                "3: v4 = v2 * v1");
        int[] kinds = {0, 1, 2, 3};
        for (int k = 0; k < 4; k++) {
            x.latency(kinds[k], 6 + k % 4);
        }
        Told.lines("its LATENCY alone", x, "e: 2 = LI n0 h0", "0: 0 = LI n5 h6",
                "1: 1 = MOVE 2 h7", "2: 3 = SUB 2 1 h8", "3: 4 = MUL 2 1 h9");
    }

    private static void heightOfTheGreatest() {
        Due.says("the greatest HEIGHT of those that need it");
        SpillslotWorks x = Told.program(0, "0: v0 = 5", "0: v1 = v0 + v0", "0: v2 = v0 * v1",
                "0: v3 = v0 - v1");
        Told.lines("not their sum, and not the first one's", x, "0: 0 = LI n5 h5",
                "0: 1 = ADD 0 0 h4", "0: 2 = MUL 0 1 h3", "0: 3 = SUB 0 1 h1");
        SpillslotWorks y = Told.program(0, "0: v0 = 5", "0: v1 = v0 - v0", "0: v2 = v0 * v0",
                "0: v3 = c(v0, v0)");
        Told.lines("though each is higher than those ahead of it", y, "0: 0 = LI n5 h6",
                "0: 3 = CALL 0 0 h5", "0: 2 = MUL 0 0 h3", "0: 1 = SUB 0 0 h1");
    }

    private static void heightByLatencies() {
        Due.says("Its HEIGHT is its LATENCY");
        SpillslotWorks x = Told.program(0, "0: v0 = v1 + v2", "0: v3 = v1 * v2");
        x.latency(2, 2);
        Due.is("ADD 2 and MUL 3: MUL first", x.chosen(2, 0), 4);
        x.latency(2, 3);
        Due.is("3 and 3: as they were", x.chosen(2, 0), 2);
        x.latency(3, 4);
        Due.is("3 and 4: MUL first", x.chosen(2, 0), 4);
        x.latency(3, 1);
        Due.is("3 and 1: ADD first", x.chosen(2, 0), 2);
    }

    private static void ofSeveralTheFirst() {
        Due.says("the one with the greatest HEIGHT, of several the first one as it was");
        SpillslotWorks x = Told.program(0, "0: v7 = 1", "0: v6 = 2", "0: v5 = 3", "0: v4 = v5",
                "0: v3 = v6", "0: v2 = v7");
        Told.lines("three of 2, then three of 1", x, "0: 7 = LI n1 h2", "0: 6 = LI n2 h2",
                "0: 5 = LI n3 h2", "0: 4 = MOVE 5 h1", "0: 3 = MOVE 6 h1", "0: 2 = MOVE 7 h1");
    }

    private static void allThatTheyNeed() {
        Due.says("of those of which all that they need are placed");
        SpillslotWorks x = Told.program(0, "0: v0 = 7", "0: v1 = 8", "0: v3 = v0 * v1",
                "0: v4 = v5 - v6", "0: v7 = v3 + v4");
        x.latency(2, 9);
        // The MUL is 12, and v4 18; both LIS are 13, and ahead of it.
        Told.lines("v3 waits for both LIS, v7 for v3 and v4", x, "e: 5 = LI n0 h0",
                "e: 6 = LI n0 h0", "0: 4 = SUB 5 6 h18", "0: 0 = LI n7 h13", "0: 1 = LI n8 h13",
                "0: 3 = MUL 0 1 h12", "0: 7 = ADD 3 4 h9");
    }

    private static void eachBlockForItself() {
        Due.says("ORDER, in each BLOCK:");
        SpillslotWorks x = Told.program(0, "0: v0 = v1", "1: v2 = v0 * v0", "1: v3 = v2",
                "3: v4 = 5", "3: v5 = v2 * v3");
        Told.lines("v0 is not higher for what other BLOCKS do with it", x, "e: 1 = LI n0 h0",
                "0: 0 = MOVE 1 h1", "1: 2 = MUL 0 0 h4", "1: 3 = MOVE 2 h1", "3: 5 = MUL 2 3 h3",
                "3: 4 = LI n5 h1");
        SpillslotWorks y = Told.program(0, "2: v0 = c(v1, v1)", "1: v0 = c(v1, v1)");
        Told.lines("nor a CALL for another one there", y, "e: 1 = LI n0 h0",
                "1: 0 = CALL 1 1 h5", "2: 0 = CALL 1 1 h5");
    }

    private static void takenAway() {
        Due.says("those that need it");
        SpillslotWorks x = Told.program(0, "0: v0 = v1", "0: v2 = v3 - v3", "0: v4 = v0 * v2",
                "0: v5 = v4 * v4");
        for (int heights = 7; heights >= 1; heights -= 3) {
            Due.is("HEIGHT of the MOVE", x.chosen(2, 7), heights);
            Due.is("HEIGHT of the SUB", x.chosen(3, 7), heights);
            if (heights > 1) {
                x.take(0);
            }
        }
        Told.lines("those that were taken away are not needed", x, "e: 1 = LI n0 h0",
                "e: 3 = LI n0 h0", "0: 0 = MOVE 1 h1", "0: 2 = SUB 3 3 h1");
        x.take(0);
        Told.lines("one alone", x, "e: 1 = LI n0 h0", "0: 0 = MOVE 1 h1");
        Told.statement(x, "1: v2 = v0 * v0");
        Told.statement(x, "1: v2 = v0 * v0");
        x.take(1);
        Told.lines("and one in the next BLOCK", x, "e: 1 = LI n0 h0", "0: 0 = MOVE 1 h1",
                "1: 2 = MUL 0 0 h3");
    }

    private static void chosenNone() {
        Due.says("2 to 4 those that it reads (NONE), 5 its number n (0 without one), 6 its BLOCK "
                + "(NONE in the ENTRY), 7 its HEIGHT (in the ENTRY 0)");
        SpillslotWorks x = Told.program(0, "0: v1 = v2 - 9", "1: v3 = v1 * v2 + v1",
                "2: v4 = v3 - v2", "3: v5 = c(v4, v3)", "3: v6 = v5");
        int[][] due = {
            {0, 2, -1, -1, -1, 0, -1, 0}, {5, 1, 2, -1, -1, -9, 0, 1}, {6, 3, 1, 2, 1, 0, 1, 3},
            {3, 4, 3, 2, -1, 0, 2, 1}, {9, 5, 4, 3, -1, 0, 3, 6}, {1, 6, 5, -1, -1, 0, 3, 1}};
        for (int point = 0; point < due.length; point++) {
            for (int what = 0; what < 8; what++) {
                Due.is("chosen(" + point + ", " + what + ")", x.chosen(point, what),
                        due[point][what]);
            }
        }
    }

    private static void chosenBounds() {
        SpillslotWorks x = Told.program(0, "2: v1 = 5", "3: v2 = 6");
        Due.says("Throws `IndexOutOfBoundsException` if there is no such POINT");
        Due.is("the last one", x.chosen(1, 1), 2);
        for (int point : new int[] {Integer.MIN_VALUE, -1, 2, 3, 87, 88, Integer.MAX_VALUE}) {
            for (int what = -1; what < 9; what++) {
                int w = what;
                Due.index("chosen(" + point + ", " + w + ")", () -> x.chosen(point, w));
            }
        }
        Due.says("Throws `IllegalArgumentException` if what is not 0 to 7");
        for (int what : new int[] {Integer.MIN_VALUE, -1, 8, 9, Integer.MAX_VALUE}) {
            Due.argument("chosen(0, " + what + ")", () -> x.chosen(0, what));
            Due.argument("chosen(1, " + what + ")", () -> x.chosen(1, what));
        }
        SpillslotWorks none = Told.program(0);
        Due.says("Throws `IndexOutOfBoundsException` if there is no such POINT");
        Due.index("without POINTS", () -> none.chosen(0, 0));
    }
}
