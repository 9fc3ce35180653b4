/** Promises 54 to 58: consistency, averages and the output. */
public final class ReportsTest {
    private static final String RICH = "player a 9 9 9 9 9 9;player b 9 9 9 9 9 9;";
    private static final String ALL_BLOCKED = "trunk 3 3;block 0 0;block 1 0;block 2 0;block 0 1;"
            + "block 1 1;block 2 1;block 0 2;block 1 2;block 2 2;" + RICH;

    public static void main(String[] args) {
        inconsistencies();
        coverage();
        meanRegion();
        writeTrunk();
        letters();
        outputStays();
        Check.finish("ReportsTest");
    }

    private static void inconsistencies() {
        TrunkDuel duel = new TrunkDuel();
        Check.due("inconsistencies()", duel.inconsistencies(), 0);
        Check.play(duel, "place square 0 0 0;place corner 1 3 0;strap 1 3 right;");
        Check.due("inconsistencies()", duel.inconsistencies(), 0);
        duel.fastenStrap(1, 0, 0);
        Check.due("inconsistencies()", duel.inconsistencies(), 0);
        duel.undo();
        duel.undo();
        Check.due("inconsistencies() after undo()", duel.inconsistencies(), 0);
    }

    private static void coverage() {
        TrunkDuel duel = new TrunkDuel();
        Check.dueExactly("coverage()", duel.coverage(), 0.0);
        duel.place(3, 0, 0, 0);
        Check.dueExactly("coverage()", duel.coverage(), 4.0 / 18.0);
        duel.place(4, 1, 3, 0);
        Check.dueExactly("coverage()", duel.coverage(), 8.0 / 18.0);
        TrunkDuel full = Check.loaded("trunk 3 3;block 1 1;block 2 1;" + RICH
                + "place rod 0 0 0;place rod 0 0 2;");
        Check.dueExactly("coverage()", full.coverage(), 6.0 / 7.0);
        Check.dueExactly("coverage() of blocks", Check.loaded(ALL_BLOCKED).coverage(), 0.0);
        TrunkDuel whole = Check.loaded("trunk 3 3;block 1 1;block 2 1;block 0 1;" + RICH
                + "place rod 0 0 0;place rod 0 0 2;");
        Check.dueExactly("coverage() of a full trunk", whole.coverage(), 1.0);
    }

    private static void meanRegion() {
        TrunkDuel duel = new TrunkDuel();
        Check.dueExactly("meanRegion()", duel.meanRegion(), 18.0f);
        TrunkDuel three = Check.loaded("trunk 4 4;block 0 1;block 1 0;block 3 2;block 2 3;" + RICH);
        Check.due("regionCount()", three.regionCount(), 3);
        Check.dueExactly("meanRegion()", three.meanRegion(), 12.0f / 3.0f);
        TrunkDuel parts = Check.loaded("trunk 3 4;block 0 1;block 1 0;block 2 2;block 1 3;block 2 1;" + RICH);
        Check.due("regionCount()", parts.regionCount(), 4);
        Check.dueExactly("meanRegion()", parts.meanRegion(), 7.0f / 4.0f);
        TrunkDuel thirds = Check.loaded("trunk 3 3;block 1 0;block 0 1;block 2 1;" + RICH);
        Check.due("regionCount()", thirds.regionCount(), 3);
        Check.dueExactly("meanRegion()", thirds.meanRegion(), 2.0f);
        TrunkDuel odd = Check.loaded("trunk 3 3;block 1 0;block 0 1;" + RICH);
        Check.due("regionCount()", odd.regionCount(), 2);
        Check.dueExactly("meanRegion()", odd.meanRegion(), 3.5f);
        TrunkDuel third = Check.loaded("trunk 4 3;block 1 0;block 0 1;block 3 1;block 2 2;" + RICH);
        Check.due("regionCount()", third.regionCount(), 3);
        Check.dueExactly("meanRegion()", third.meanRegion(), 8.0f / 3.0f);
        Check.dueExactly("meanRegion() of blocks", Check.loaded(ALL_BLOCKED).meanRegion(), 0.0f);
    }

    private static String output(TrunkDuel duel, int length) {
        StringBuilder text = new StringBuilder();
        for (int index = 0; index < length; index++) {
            text.append((char) duel.outputByte(index));
        }
        return text.toString();
    }

    private static void writeTrunk() {
        TrunkDuel duel = new TrunkDuel();
        Check.due("outputByte(0) of nothing", duel.outputByte(0), TrunkDuel.NONE);
        Check.due("writeTrunk()", duel.writeTrunk(), 23);
        Check.due("the output", output(duel, 23), "....#\n.....\n.....\n#....");
        Check.play(duel, "place square 0 0 0;place corner 1 3 0;");
        Check.due("writeTrunk()", duel.writeTrunk(), 23);
        Check.due("the output", output(duel, 23), "aabb#\naa.b.\n...b.\n#....");
        Check.load(duel, "trunk 4 3;block 1 1;" + RICH);
        Check.due("the output stays", duel.outputByte(22), '.');
        Check.due("writeTrunk() of a smaller trunk", duel.writeTrunk(), 14);
        Check.due("the output", output(duel, 14), "....\n.#..\n....");
        for (int bad : new int[] {-1, 14, 22, Integer.MIN_VALUE, Integer.MAX_VALUE}) {
            Check.due("outputByte(" + bad + ")", duel.outputByte(bad), TrunkDuel.NONE);
        }
    }

    private static void letters() {
        // More than 27 pieces can't be: 18 bars fill 36 cells, and nine rods fill 27 of the rest.
        TrunkDuel duel = Check.loaded("trunk 8 8;" + RICH);
        for (int piece = 0; piece < 18; piece++) {
            duel.place(0, 0, piece % 4 * 2, piece / 4);
        }
        int[][] rods = {{0, 0, 5}, {0, 3, 5}, {0, 0, 6}, {0, 3, 6}, {0, 0, 7}, {0, 3, 7}, {1, 6, 5},
            {1, 7, 5}, {0, 4, 4}};
        for (int[] rod : rods) {
            duel.place(2, rod[0], rod[1], rod[2]);
        }
        Check.due("pieceCount()", duel.pieceCount(), 27);
        Check.due("pieceAt(4, 4)", duel.pieceAt(4, 4), 26);
        int length = duel.writeTrunk();
        Check.due("writeTrunk()", length, 71);
        for (int row = 0; row < 8; row++) {
            for (int column = 0; column < 8; column++) {
                int piece = duel.pieceAt(column, row);
                int due = piece < 0 ? '.' : "abcdefghijklmnopqrstuvwxyzA".charAt(piece);
                Check.due("letter at " + column + "," + row, duel.outputByte(row * 9 + column), due);
            }
        }
    }

    private static void outputStays() {
        TrunkDuel duel = new TrunkDuel();
        duel.writeTrunk();
        duel.place(3, 0, 0, 0);
        Check.due("outputByte(0) before the next writeTrunk()", duel.outputByte(0), '.');
        Check.due("outputByte(4)", duel.outputByte(4), '#');
        Check.due("outputByte(5)", duel.outputByte(5), 10);
        Check.due("outputByte(23)", duel.outputByte(23), TrunkDuel.NONE);
        duel.writeTrunk();
        Check.due("outputByte(0)", duel.outputByte(0), 'a');
    }
}
