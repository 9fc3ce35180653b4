/** Promises 14 to 30: the trunk, its rows, cells, straps and pieces. */
public final class TrunkTest {
    private static final int MIN = Integer.MIN_VALUE;
    private static final int MAX = Integer.MAX_VALUE;

    public static void main(String[] args) {
        sizes();
        counts();
        cells();
        straps();
        emptyInRow();
        pieces();
        Check.finish("TrunkTest");
    }

    private static TrunkDuel midgame() {
        TrunkDuel duel = new TrunkDuel();
        Check.play(duel, "place square 0 0 0;place corner 1 3 0;strap 1 3 right;");
        return duel;
    }

    private static void sizes() {
        for (int columns = 3; columns <= 8; columns++) {
            for (int rows = 3; rows <= 8; rows++) {
                TrunkDuel duel = Check.loaded("trunk " + columns + " " + rows
                        + ";player a 0 0 0 0 0 0;player b 0 0 0 0 0 0;");
                Check.due("columns()", duel.columns(), columns);
                Check.due("rows()", duel.rows(), rows);
                Check.due("emptyCells()", duel.emptyCells(), (long) columns * rows);
            }
        }
        Check.due("columns() at first", new TrunkDuel().columns(), 5);
        Check.due("rows() at first", new TrunkDuel().rows(), 4);
    }

    private static void counts() {
        TrunkDuel duel = new TrunkDuel();
        Check.due("emptyCells()", duel.emptyCells(), 18);
        Check.due("pieceCount()", duel.pieceCount(), 0);
        Check.due("strapCount()", duel.strapCount(), 2);
        Check.due("completeRows()", duel.completeRows(), 0);
        Check.due("undoableChanges()", duel.undoableChanges(), 0);
        TrunkDuel later = midgame();
        Check.due("emptyCells()", later.emptyCells(), 10);
        Check.due("pieceCount()", later.pieceCount(), 2);
        Check.due("strapCount()", later.strapCount(), 3);
        Check.due("completeRows()", later.completeRows(), 1);
        Check.due("undoableChanges()", later.undoableChanges(), 1);
        TrunkDuel blocked = Check.loaded("trunk 3 4;block 0 1;block 1 1;block 2 1;block 1 2;"
                + "player a 0 0 0 0 0 0;player b 0 0 0 0 0 0;");
        Check.due("completeRows() with a blocked row", blocked.completeRows(), 1);
        Check.due("emptyCells() with a blocked row", blocked.emptyCells(), 8);
    }

    private static void cells() {
        TrunkDuel duel = midgame();
        Check.due("isBlocked(4, 0)", duel.isBlocked(4, 0), true);
        Check.due("isBlocked(0, 3)", duel.isBlocked(0, 3), true);
        Check.due("isBlocked(0, 0)", duel.isBlocked(0, 0), false);
        Check.due("isBlocked(3, 3)", duel.isBlocked(3, 3), false);
        Check.due("pieceAt(4, 0)", duel.pieceAt(4, 0), TrunkDuel.NONE);
        Check.due("pieceAt(2, 1)", duel.pieceAt(2, 1), TrunkDuel.NONE);
        Check.due("pieceAt(1, 1)", duel.pieceAt(1, 1), 0);
        Check.due("pieceAt(2, 0)", duel.pieceAt(2, 0), 1);
        Check.due("pieceAt(3, 2)", duel.pieceAt(3, 2), 1);
        for (int[] bad : new int[][] {{-1, 0}, {5, 0}, {0, -1}, {0, 4}, {MIN, 0}, {MAX, 0}, {0, MIN},
            {0, MAX}, {MAX, MAX}, {7, 0}}) {
            Check.outOfBounds("isBlocked", () -> duel.isBlocked(bad[0], bad[1]));
            Check.outOfBounds("pieceAt", () -> duel.pieceAt(bad[0], bad[1]));
        }
    }

    private static void straps() {
        TrunkDuel duel = midgame();
        Check.due("hasStrap(1, 1, RIGHT)", duel.hasStrap(1, 1, TrunkDuel.RIGHT), true);
        Check.due("hasStrap(1, 1, BELOW)", duel.hasStrap(1, 1, TrunkDuel.BELOW), false);
        Check.due("hasStrap(2, 2, BELOW)", duel.hasStrap(2, 2, TrunkDuel.BELOW), true);
        Check.due("hasStrap(2, 2, RIGHT)", duel.hasStrap(2, 2, TrunkDuel.RIGHT), false);
        Check.due("hasStrap(1, 3, RIGHT)", duel.hasStrap(1, 3, TrunkDuel.RIGHT), true);
        Check.due("hasStrap(2, 1, RIGHT)", duel.hasStrap(2, 1, TrunkDuel.RIGHT), false);
        for (int bad : new int[] {-1, 2, MIN, MAX}) {
            Check.badArgument("hasStrap, side " + bad, () -> duel.hasStrap(0, 0, bad));
            Check.badArgument("hasStrap, side first " + bad, () -> duel.hasStrap(9, 9, bad));
        }
        for (int[] bad : new int[][] {{4, 1, 0}, {1, 3, 1}, {-1, 0, 0}, {0, -1, 1}, {5, 0, 1}, {0, 4, 0},
            {MAX, 0, 0}, {0, MAX, 1}, {MIN, 0, 0}, {0, MIN, 1}}) {
            Check.outOfBounds("hasStrap", () -> duel.hasStrap(bad[0], bad[1], bad[2]));
        }
    }

    private static void emptyInRow() {
        TrunkDuel duel = midgame();
        Check.due("emptyInRow(0)", duel.emptyInRow(0), 0);
        Check.due("emptyInRow(1)", duel.emptyInRow(1), 2);
        Check.due("emptyInRow(2)", duel.emptyInRow(2), 4);
        Check.due("emptyInRow(3)", duel.emptyInRow(3), 4);
        for (int bad : new int[] {-1, 4, 7, 8, MIN, MAX}) {
            Check.outOfBounds("emptyInRow(" + bad + ")", () -> duel.emptyInRow(bad));
        }
    }

    private static void pieces() {
        TrunkDuel duel = midgame();
        Check.due("pieceShape(0)", duel.pieceShape(0), TrunkDuel.SQUARE);
        Check.due("pieceShape(1)", duel.pieceShape(1), TrunkDuel.CORNER);
        Check.due("pieceRotation(0)", duel.pieceRotation(0), 0);
        Check.due("pieceRotation(1)", duel.pieceRotation(1), 1);
        Check.due("pieceColumn(0)", duel.pieceColumn(0), 0);
        Check.due("pieceColumn(1)", duel.pieceColumn(1), 3);
        Check.due("pieceRow(1)", duel.pieceRow(1), 0);
        Check.due("pieceOwner(0)", duel.pieceOwner(0), 0);
        Check.due("pieceOwner(1)", duel.pieceOwner(1), 1);
        Check.due("piecePoints(0)", duel.piecePoints(0), 4);
        Check.due("piecePoints(1)", duel.piecePoints(1), 9);
        duel.place(2, 0, 2, 3);
        Check.due("pieceRow(2)", duel.pieceRow(2), 3);
        Check.due("pieceOwner(2)", duel.pieceOwner(2), 1);
        duel.undo();
        for (int bad : new int[] {-1, 2, 31, 32, MIN, MAX}) {
            Check.outOfBounds("pieceShape(" + bad + ")", () -> duel.pieceShape(bad));
            Check.outOfBounds("pieceRotation(" + bad + ")", () -> duel.pieceRotation(bad));
            Check.outOfBounds("pieceColumn(" + bad + ")", () -> duel.pieceColumn(bad));
            Check.outOfBounds("pieceRow(" + bad + ")", () -> duel.pieceRow(bad));
            Check.outOfBounds("pieceOwner(" + bad + ")", () -> duel.pieceOwner(bad));
            Check.outOfBounds("piecePoints(" + bad + ")", () -> duel.piecePoints(bad));
        }
    }
}
