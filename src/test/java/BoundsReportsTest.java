/** Promises 49 to 58: each sentence that names a bound, with both sides of it. */
public final class BoundsReportsTest {
    private static final String ALL_BLOCKED = "trunk 3 3;block 0 0;block 1 0;block 2 0;block 0 1;block 1 1;"
            + "block 2 1;block 0 2;block 1 2;block 2 2;";
    private static final String RODS = "player a 0 0 3 0 0 1;player b 0 0 3 0 0 1;";
    private static final String ROWS = "place rod 0 0 0;place rod 0 0 1;place rod 0 0 2;";
    private static final String ALL_STRAPS = "strap0 0right;strap1 0right;strap0 1right;strap1 1right;strap0 2right;"
            + "strap1 2right;strap0 0below;strap1 0below;strap2 0below;strap0 1below;strap1 1below;strap2 1below;";

    public static void main(String[] args) {
        regionCount();
        largestRegion();
        regionSize();
        isDead();
        deadCells();
        inconsistencies();
        coverage();
        coverageZero();
        meanRegion();
        meanRegionZero();
        writeTrunk();
        writeTrunkLetters();
        writeTrunkReturns();
        writeTrunkReplaces();
        outputByte();
        Check.finish("BoundsReportsTest");
    }

    private static TrunkDuel full() {
        return Bounds.with("trunk 3 3;", RODS + ROWS);
    }

    private static void regionCount() {
        Check.sentence("49", "Returns the number of regions.");
        Check.due("all empty", Bounds.with("trunk 8 8;", Bounds.POOR).regionCount(), 1);
        Check.due("all blocked", Bounds.with(ALL_BLOCKED, Bounds.POOR).regionCount(), 0);
        Check.due("all covered", full().regionCount(), 0);
        Check.due("one cell", Bounds.with(ALL_BLOCKED.replace("block 1 1;", ""), Bounds.POOR).regionCount(), 1);
        Check.due("nine cells behind straps", Bounds.with("trunk 3 3;" + ALL_STRAPS, Bounds.POOR).regionCount(), 9);
        TrunkDuel checkered = Bounds.with("trunk 8 8;" + checkers(4), Bounds.POOR);
        Check.due("a chessboard on four rows", checkered.regionCount(), 13);
        Check.due("straps do not divide a way round", Bounds.with("trunk 3 3;strap 0 0 right;", Bounds.POOR)
                .regionCount(), 1);
    }

    /** Blocks every other cell of the first rows. */
    private static String checkers(int rows) {
        StringBuilder text = new StringBuilder();
        for (int cell = 0; cell < rows * 8; cell++) {
            if ((cell + cell / 8) % 2 == 1) {
                text.append("block").append(cell % 8).append(' ').append(cell / 8).append(';');
            }
        }
        return text.toString();
    }

    private static void largestRegion() {
        Check.sentence("50", "Returns the number of cells of the largest region; 0 if no cell is empty.");
        Check.due("all empty", Bounds.with("trunk 8 8;", Bounds.POOR).largestRegion(), 64);
        Check.due("all blocked", Bounds.with(ALL_BLOCKED, Bounds.POOR).largestRegion(), 0);
        Check.due("all covered", full().largestRegion(), 0);
        Check.due("one cell", Bounds.with(ALL_BLOCKED.replace("block 2 2;", ""), Bounds.POOR).largestRegion(), 1);
        Check.due("single cells", Bounds.with("trunk 3 3;" + ALL_STRAPS, Bounds.POOR).largestRegion(), 1);
        Check.due("the first is the largest", Bounds.with("trunk 3 3;block 0 2;block 1 1;block 2 1;", Bounds.POOR)
                .largestRegion(), 4);
        Check.due("the last is the largest", Bounds.with("trunk 3 3;block 0 1;block 1 0;", Bounds.POOR)
                .largestRegion(), 6);
        TrunkDuel shrinks = Bounds.with("trunk 8 8;", Bounds.POOR);
        shrinks.largestRegion();
        Check.load(shrinks, "trunk 3 3;" + Bounds.POOR);
        Check.due("behind a larger trunk", shrinks.largestRegion(), 9);
    }

    private static void regionSize() {
        Check.sentence("51", "Returns the number of cells of its region; 0 if the cell is not empty.");
        TrunkDuel duel = Bounds.with("trunk 3 3;block 0 1;block 1 0;", Bounds.RICH);
        Check.due("one cell", duel.regionSize(0, 0), 1);
        Check.due("six cells, the first", duel.regionSize(2, 0), 6);
        Check.due("six cells, the last", duel.regionSize(0, 2), 6);
        Check.due("a block", duel.regionSize(1, 0), 0);
        duel.place(0, 0, 1, 2);
        Check.due("a piece", duel.regionSize(1, 2), 0);
        Check.due("cut off by the piece", duel.regionSize(0, 2), 1);
        Check.due("the last cell of all", Bounds.with("trunk 8 8;", Bounds.POOR).regionSize(7, 7), 64);
        Check.sentence("51", "Throws IndexOutOfBoundsException if the cell is not in the trunk");
        for (int bad : Bounds.outside(0, 4)) {
            Bounds.refused("regionSize column " + bad, Bounds.BOUNDS, Bounds::busy, one -> one.regionSize(bad, 1));
        }
        for (int bad : Bounds.outside(0, 3)) {
            Bounds.refused("regionSize row " + bad, Bounds.BOUNDS, Bounds::busy, one -> one.regionSize(1, bad));
        }
        Bounds.refused("regionSize at the end", Bounds.BOUNDS, Bounds::over, one -> one.regionSize(3, 3));
        TrunkDuel large = Bounds.with("trunk 8 8;", Bounds.POOR);
        Check.outOfBounds("regionSize(8, 7)", () -> large.regionSize(8, 7));
        Check.outOfBounds("regionSize(7, 8)", () -> large.regionSize(7, 8));
    }

    private static void isDead() {
        Check.sentence("52", "Returns true if it is dead.");
        TrunkDuel duel = Bounds.with("trunk 3 3;block 0 1;block 1 0;", Bounds.RICH);
        Check.due("a cell alone", duel.isDead(0, 0), true);
        Check.due("a block", duel.isDead(0, 1), false);
        Check.due("a cell of six", duel.isDead(2, 2), false);
        TrunkDuel pair = Bounds.with(ALL_BLOCKED.replace("block 0 0;block 1 0;", ""), Bounds.POOR);
        Check.due("the first of two cells", pair.isDead(0, 0), false);
        Check.due("the second of two cells", pair.isDead(1, 0), false);
        pair.fastenStrap(0, 0, 0);
        Check.due("the first behind a strap", pair.isDead(0, 0), true);
        Check.due("the second behind a strap", pair.isDead(1, 0), true);
        Check.due("a piece", Bounds.busy().isDead(0, 0), false);
        Check.due("the last cell of all", Bounds.with("trunk 8 8;block 6 7;block 7 6;", Bounds.POOR).isDead(7, 7), true);
        Check.sentence("52", "Throws IndexOutOfBoundsException if the cell is not in the trunk");
        for (int bad : Bounds.outside(0, 4)) {
            Bounds.refused("isDead column " + bad, Bounds.BOUNDS, Bounds::busy, one -> one.isDead(bad, 1));
        }
        for (int bad : Bounds.outside(0, 3)) {
            Bounds.refused("isDead row " + bad, Bounds.BOUNDS, Bounds::busy, one -> one.isDead(1, bad));
        }
        Bounds.refused("isDead at the end", Bounds.BOUNDS, Bounds::over, one -> one.isDead(3, 3));
        TrunkDuel large = Bounds.with("trunk 8 8;", Bounds.POOR);
        Check.outOfBounds("isDead(8, 7)", () -> large.isDead(8, 7));
        Check.outOfBounds("isDead(7, 8)", () -> large.isDead(7, 8));
    }

    private static void deadCells() {
        Check.sentence("53", "Returns the number of dead cells.");
        Check.due("all empty", Bounds.with("trunk 8 8;", Bounds.POOR).deadCells(), 0);
        Check.due("all blocked", Bounds.with(ALL_BLOCKED, Bounds.POOR).deadCells(), 0);
        Check.due("all covered", full().deadCells(), 0);
        Check.due("all behind straps", Bounds.with("trunk 3 3;" + ALL_STRAPS, Bounds.POOR).deadCells(), 9);
        Check.due("all but two behind straps", Bounds.with("trunk 3 3;" + ALL_STRAPS.substring(14), Bounds.POOR)
                .deadCells(), 7);
        Check.due("one cell", Bounds.with(ALL_BLOCKED.replace("block 2 2;", ""), Bounds.POOR).deadCells(), 1);
    }

    private static void inconsistencies() {
        Check.sentence("54", "Returns the sum of these numbers, which is always 0");
        Check.due("a new object", new TrunkDuel().inconsistencies(), 0);
        Check.due("all covered", full().inconsistencies(), 0);
        Check.due("all blocked", Bounds.with(ALL_BLOCKED, Bounds.POOR).inconsistencies(), 0);
        Check.due("at the end", Bounds.over().inconsistencies(), 0);
        TrunkDuel duel = Bounds.busy();
        Check.due("in a game", duel.inconsistencies(), 0);
        duel.fastenStrap(1, 0, 0);
        Check.due("with a strap between two pieces", duel.inconsistencies(), 0);
        duel.restore(0);
        Check.due("behind restore()", duel.inconsistencies(), 0);
        duel.undo();
        duel.undo();
        duel.undo();
        Check.due("behind undo()", duel.inconsistencies(), 0);
    }

    private static void coverage() {
        Check.sentence("55", "Returns the number of covered cells, converted to double, divided by the number of cells that"
                + " are not blocked, converted to double");
        Check.dueExactly("none covered", new TrunkDuel().coverage(), 0.0);
        Check.dueExactly("all covered", full().coverage(), 1.0);
        Check.dueExactly("in a game", Bounds.busy().coverage(), 8.0 / 18.0);
        for (int rods = 0; rods <= 3; rods++) {
            TrunkDuel duel = Bounds.with("trunk 7 3;block 6 0;", RODS + ROWS.substring(0, rods * 16));
            Check.dueExactly("with " + rods + " rods", duel.coverage(), (double) (3 * rods) / 20.0);
        }
    }

    private static void coverageZero() {
        Check.sentence("55", "0.0 if all cells are blocked");
        Check.dueExactly("all blocked", Bounds.with(ALL_BLOCKED, Bounds.RICH).coverage(), 0.0);
        Check.dueExactly("all but one", Bounds.with(ALL_BLOCKED.replace("block 0 0;", ""), Bounds.RICH).coverage(), 0.0);
        TrunkDuel two = Bounds.with(ALL_BLOCKED.replace("block 0 0;block 1 0;", ""), Bounds.RICH);
        two.place(0, 0, 0, 0);
        Check.dueExactly("all but a bar", two.coverage(), 1.0);
    }

    private static void meanRegion() {
        Check.sentence("56", "Returns the number of empty cells, converted to float, divided by regionCount(), converted to"
                + " float");
        Check.dueExactly("all empty", Bounds.with("trunk 8 8;", Bounds.POOR).meanRegion(), 64.0f);
        Check.dueExactly("single cells", Bounds.with("trunk 3 3;" + ALL_STRAPS, Bounds.POOR).meanRegion(), 1.0f);
        TrunkDuel thirds = Bounds.with("trunk 4 3;block 1 0;block 0 1;block 3 1;block 2 2;", Bounds.POOR);
        Check.due("regionCount()", thirds.regionCount(), 3);
        Check.dueExactly("eight thirds", thirds.meanRegion(), 8.0f / 3.0f);
        TrunkDuel checkered = Bounds.with("trunk 8 8;" + checkers(4), Bounds.POOR);
        Check.dueExactly("forty-eight thirteenths", checkered.meanRegion(), 48.0f / 13.0f);
    }

    private static void meanRegionZero() {
        Check.sentence("56", "0.0f if there is no region");
        Check.dueExactly("all blocked", Bounds.with(ALL_BLOCKED, Bounds.POOR).meanRegion(), 0.0f);
        Check.dueExactly("all covered", full().meanRegion(), 0.0f);
        Check.dueExactly("one region", Bounds.with(ALL_BLOCKED.replace("block 2 2;", ""), Bounds.POOR).meanRegion(), 1.0f);
    }

    private static String written(TrunkDuel duel) {
        int length = duel.writeTrunk();
        StringBuilder text = new StringBuilder();
        for (int index = 0; index < length; index++) {
            text.append((char) duel.outputByte(index));
        }
        return text.toString();
    }

    private static void writeTrunk() {
        Check.sentence("57", "for each row, from the top, one byte for each cell, and a line feed (byte 10) between two"
                + " rows");
        Check.due("a new object", written(new TrunkDuel()), "....#\n.....\n.....\n#....");
        Check.due("in a game", written(Bounds.busy()), "aabb#\naa.b.\n...b.\n#....");
        Check.due("all blocked", written(Bounds.with(ALL_BLOCKED, Bounds.POOR)), "###\n###\n###");
        Check.due("all covered", written(full()), "aaa\nbbb\nccc");
        Check.due("3 x 8", written(Bounds.with("trunk 3 8;", Bounds.POOR)), "...\n".repeat(7) + "...");
        Check.due("8 x 3", written(Bounds.with("trunk 8 3;", Bounds.POOR)), "........\n".repeat(2) + "........");
    }

    private static void writeTrunkLetters() {
        Check.sentence("57", "the bytes 97 to 122 (a to z) for the pieces 0 to 25, and the bytes from 65 (A) on for the"
                + " pieces from 26 on");
        TrunkDuel duel = Bounds.with("trunk 8 8;", Bounds.RICH);
        for (int bar = 0; bar < 18; bar++) {
            duel.place(0, 0, bar % 4 * 2, bar / 4);
        }
        int[][] rods = {{0, 0, 5}, {0, 3, 5}, {0, 0, 6}, {0, 3, 6}, {0, 0, 7}, {0, 3, 7}, {1, 6, 5}, {1, 7, 5}, {0, 4, 4}};
        for (int[] rod : rods) {
            duel.place(2, rod[0], rod[1], rod[2]);
        }
        Check.due("27 pieces", written(duel), "aabbccdd\neeffgghh\niijjkkll\nmmnnoopp\nqqrrAAA.\nsssttt" + "yz\n"
                + "uuuvvvyz\nwwwxxxyz");
    }

    private static void writeTrunkReturns() {
        Check.sentence("57", "Returns the length of the output.");
        for (int columns = 3; columns <= 8; columns++) {
            for (int rows = 3; rows <= 8; rows++) {
                TrunkDuel duel = Bounds.with("trunk " + columns + " " + rows + ";", Bounds.POOR);
                int length = columns * rows + rows - 1;
                Check.due("writeTrunk() of " + columns + " x " + rows, duel.writeTrunk(), length);
                Check.due("its last byte", duel.outputByte(length - 1), '.');
                Check.due("the byte behind it", duel.outputByte(length), Bounds.NONE);
            }
        }
    }

    private static void writeTrunkReplaces() {
        Check.sentence("57", "Writes the trunk to the output and replaces the previous output");
        TrunkDuel duel = Bounds.with("trunk 8 8;block 7 7;", Bounds.POOR);
        duel.writeTrunk();
        Check.load(duel, "trunk 3 3;block 2 2;" + Bounds.POOR);
        Check.due("the previous output stays till then", duel.outputByte(70), '#');
        Check.due("writeTrunk() of a smaller trunk", duel.writeTrunk(), 11);
        Check.due("outputByte(10)", duel.outputByte(10), '#');
        Check.due("outputByte(11)", duel.outputByte(11), Bounds.NONE);
        Check.due("outputByte(70)", duel.outputByte(70), Bounds.NONE);
        duel.undo();
        Check.due("writeTrunk() of the larger trunk again", duel.writeTrunk(), 71);
        Check.due("writeTrunk() once more", duel.writeTrunk(), 71);
        Check.due("outputByte(70)", duel.outputByte(70), '#');
        Check.due("outputByte(71)", duel.outputByte(71), Bounds.NONE);
    }

    private static void outputByte() {
        Check.sentence("58", "Returns the byte; NONE if there is no such byte.");
        TrunkDuel none = new TrunkDuel();
        for (int bad : Bounds.outside(0, -1)) {
            Check.due("outputByte(" + bad + ") of nothing", none.outputByte(bad), Bounds.NONE);
        }
        Check.due("outputByte(0) of nothing", none.outputByte(0), Bounds.NONE);
        TrunkDuel duel = Bounds.busy();
        Check.due("outputByte(0)", duel.outputByte(0), 'a');
        Check.due("outputByte(22)", duel.outputByte(22), '.');
        for (int bad : Bounds.outside(0, 22)) {
            Check.due("outputByte(" + bad + ")", duel.outputByte(bad), Bounds.NONE);
        }
        Bounds.quiet("outputByte(23)", Bounds.NONE, Bounds::busy, one -> one.outputByte(23));
        Bounds.quiet("outputByte(MIN)", Bounds.NONE, Bounds::busy, one -> one.outputByte(Bounds.MIN));
    }
}
