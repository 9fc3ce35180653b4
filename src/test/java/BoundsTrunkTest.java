import java.util.function.ToIntBiFunction;

/** Promises 14 to 37: each sentence that names a bound, with both sides of it. */
public final class BoundsTrunkTest {
    private static final String FULL = "player a 0 0 3 0 0 0;player b 0 0 3 0 0 0;";
    private static final String ALL_BLOCKED = "trunk 3 3;block 0 0;block 1 0;block 2 0;block 0 1;block 1 1;"
            + "block 2 1;block 0 2;block 1 2;block 2 2;";

    public static void main(String[] args) {
        columnsAndRows();
        emptyCells();
        pieceCount();
        strapCount();
        completeRows();
        undoableChanges();
        isBlocked();
        pieceAt();
        hasStrap();
        emptyInRow();
        pieces();
        pieceNumbers();
        playerToMove();
        isOver();
        leader();
        score();
        supply();
        strapsLeft();
        nameByte();
        Check.finish("BoundsTrunkTest");
    }

    /** A trunk of 3 x 3 cells that three rods fill. */
    private static TrunkDuel full() {
        TrunkDuel duel = Bounds.with("trunk 3 3;", FULL);
        duel.place(2, 0, 0, 0);
        duel.place(2, 2, 2, 1);
        duel.place(2, 0, 0, 2);
        return duel;
    }

    // ---- the trunk

    private static void columnsAndRows() {
        Check.sentence("14, 15", "Returns the number of columns. Returns the number of rows.");
        for (int span = 3; span <= 8; span++) {
            TrunkDuel duel = Bounds.with("trunk " + span + " " + (11 - span) + ";", Bounds.POOR);
            Check.due("columns()", duel.columns(), span);
            Check.due("rows()", duel.rows(), 11 - span);
        }
    }

    private static void emptyCells() {
        Check.sentence("16", "Returns the number of empty cells.");
        Check.due("none blocked", Bounds.with("trunk 8 8;", Bounds.POOR).emptyCells(), 64);
        Check.due("one blocked", Bounds.with("trunk 8 8;block 0 0;", Bounds.POOR).emptyCells(), 63);
        Check.due("all blocked", Bounds.with(ALL_BLOCKED, Bounds.POOR).emptyCells(), 0);
        Check.due("all but one blocked", Bounds.with(ALL_BLOCKED.replace("block 1 1;", ""), Bounds.POOR).emptyCells(), 1);
        Check.due("all covered", full().emptyCells(), 0);
        TrunkDuel undone = full();
        undone.undo();
        Check.due("the last undone", undone.emptyCells(), 3);
    }

    private static void pieceCount() {
        Check.sentence("17", "Returns the number of pieces in the trunk.");
        Check.due("none", new TrunkDuel().pieceCount(), 0);
        Check.due("three", full().pieceCount(), 3);
        TrunkDuel most = mostPieces();
        Check.due("the most that can be", most.pieceCount(), 27);
        Check.due("pieceAt() of the last", most.pieceAt(4, 4), 26);
        Check.due("pieceShape(26)", most.pieceShape(26), 2);
    }

    /** Eighteen bars and nine rods, which is as many pieces as a trunk takes. */
    private static TrunkDuel mostPieces() {
        TrunkDuel duel = Bounds.with("trunk 8 8;", Bounds.RICH);
        for (int bar = 0; bar < 18; bar++) {
            duel.place(0, 0, bar % 4 * 2, bar / 4);
        }
        int[][] rods = {{0, 0, 5}, {0, 3, 5}, {0, 0, 6}, {0, 3, 6}, {0, 0, 7}, {0, 3, 7}, {1, 6, 5}, {1, 7, 5}, {0, 4, 4}};
        for (int[] rod : rods) {
            duel.place(2, rod[0], rod[1], rod[2]);
        }
        return duel;
    }

    private static void strapCount() {
        Check.sentence("18", "Returns the number of edges with a strap.");
        Check.due("none", Bounds.with("trunk 3 3;", Bounds.POOR).strapCount(), 0);
        String all = "strap0 0right;strap1 0right;strap0 1right;strap1 1right;strap0 2right;strap1 2right;"
                + "strap0 0below;strap1 0below;strap2 0below;strap0 1below;strap1 1below;strap2 1below;";
        Check.due("all edges", Bounds.with("trunk 3 3;" + all, Bounds.POOR).strapCount(), 12);
        TrunkDuel duel = Bounds.with("trunk 3 3;" + all.substring(14), Bounds.RICH);
        Check.due("all edges but one", duel.strapCount(), 11);
        duel.fastenStrap(0, 0, 0);
        Check.due("with that of a player", duel.strapCount(), 12);
        duel.undo();
        Check.due("with that of a player undone", duel.strapCount(), 11);
    }

    private static void completeRows() {
        Check.sentence("19", "Returns the number of complete rows.");
        Check.due("none", new TrunkDuel().completeRows(), 0);
        Check.due("all, covered", full().completeRows(), 3);
        Check.due("all, blocked", Bounds.with(ALL_BLOCKED, Bounds.POOR).completeRows(), 3);
        Check.due("all but one cell", Bounds.with(ALL_BLOCKED.replace("block 2 1;", ""), Bounds.POOR).completeRows(), 2);
        TrunkDuel mixed = Bounds.with("trunk 3 3;block 0 1;", Bounds.RICH);
        Check.due("before", mixed.completeRows(), 0);
        mixed.place(0, 0, 1, 1);
        Check.due("with a block and a bar", mixed.completeRows(), 1);
        mixed.place(2, 0, 0, 0);
        Check.due("with one more", mixed.completeRows(), 2);
    }

    private static void undoableChanges() {
        Check.sentence("20", "Returns the number of changes that can be undone.");
        TrunkDuel duel = Bounds.with("trunk 8 8;", Bounds.RICH);
        duel.undo();
        Check.due("none", duel.undoableChanges(), 0);
        for (int change = 1; change <= 18; change++) {
            Check.play(duel, "");
            Check.due("behind " + change, duel.undoableChanges(), Math.min(change, 8));
        }
    }

    /** A call that takes a cell: outside the trunk it throws, and nothing changes. */
    private static void refusesCells(String call, ToIntBiFunction<TrunkDuel, int[]> ask) {
        for (int bad : Bounds.outside(0, 4)) {
            Bounds.refused(call + " column " + bad, Bounds.BOUNDS, Bounds::busy,
                    duel -> ask.applyAsInt(duel, new int[] {bad, 1}));
        }
        for (int bad : Bounds.outside(0, 3)) {
            Bounds.refused(call + " row " + bad, Bounds.BOUNDS, Bounds::busy,
                    duel -> ask.applyAsInt(duel, new int[] {1, bad}));
        }
        Bounds.refused(call + " both", Bounds.BOUNDS, Bounds::over, duel -> ask.applyAsInt(duel, new int[] {3, 3}));
        TrunkDuel large = Bounds.with("trunk 8 8;", Bounds.POOR);
        ask.applyAsInt(large, new int[] {7, 7});
        Check.outOfBounds(call + " 8, 7", () -> ask.applyAsInt(large, new int[] {8, 7}));
        Check.outOfBounds(call + " 7, 8", () -> ask.applyAsInt(large, new int[] {7, 8}));
    }

    private static void isBlocked() {
        Check.sentence("21", "Returns true if it is blocked.");
        TrunkDuel duel = Bounds.busy();
        Check.due("the block in the corner", duel.isBlocked(4, 0), true);
        Check.due("the block at the bottom", duel.isBlocked(0, 3), true);
        Check.due("beside it", duel.isBlocked(1, 3), false);
        Check.due("the first cell, covered", duel.isBlocked(0, 0), false);
        Check.due("the last cell, empty", duel.isBlocked(4, 3), false);
        Check.sentence("21", "Throws IndexOutOfBoundsException if the cell is not in the trunk");
        refusesCells("isBlocked", (one, cell) -> one.isBlocked(cell[0], cell[1]) ? 1 : 0);
    }

    private static void pieceAt() {
        Check.sentence("22", "Returns the number of the piece; NONE if no piece covers the cell.");
        TrunkDuel duel = Bounds.busy();
        Check.due("piece 0", duel.pieceAt(0, 0), 0);
        Check.due("piece 0, its last cell", duel.pieceAt(1, 1), 0);
        Check.due("piece 1", duel.pieceAt(2, 0), 1);
        Check.due("an empty cell", duel.pieceAt(2, 1), Bounds.NONE);
        Check.due("a block", duel.pieceAt(4, 0), Bounds.NONE);
        Check.due("the last cell", duel.pieceAt(4, 3), Bounds.NONE);
        Check.sentence("22", "Throws IndexOutOfBoundsException if the cell is not in the trunk");
        refusesCells("pieceAt", (one, cell) -> one.pieceAt(cell[0], cell[1]));
    }

    private static void hasStrap() {
        Check.sentence("23", "Returns true if it has a strap.");
        TrunkDuel duel = Bounds.busy();
        Check.due("of the setup, right", duel.hasStrap(1, 1, 0), true);
        Check.due("of the setup, below", duel.hasStrap(2, 2, 1), true);
        Check.due("of a player", duel.hasStrap(1, 3, 0), true);
        Check.due("the other side", duel.hasStrap(1, 1, 1), false);
        Check.due("the cell beside", duel.hasStrap(2, 1, 0), false);
        Check.due("the last edge right", duel.hasStrap(3, 3, 0), false);
        Check.due("the last edge below", duel.hasStrap(4, 2, 1), false);
        Check.due("the edge of a block", duel.hasStrap(4, 0, 1), false);
        Check.sentence("23", "Throws IndexOutOfBoundsException if one of the two cells of the edge is not in the trunk");
        refusesCells("hasStrap right", (one, cell) -> cell[0] == 7 && cell[1] == 7 ? 0
                : one.hasStrap(cell[0], cell[1], 0) ? 1 : 0);
        refusesCells("hasStrap below", (one, cell) -> cell[0] == 7 && cell[1] == 7 ? 0
                : one.hasStrap(cell[0], cell[1], 1) ? 1 : 0);
        Bounds.refused("right of the last column", Bounds.BOUNDS, Bounds::busy, one -> one.hasStrap(4, 1, 0));
        Bounds.refused("below the last row", Bounds.BOUNDS, Bounds::busy, one -> one.hasStrap(1, 3, 1));
        TrunkDuel large = Bounds.with("trunk 8 8;strap 6 7 right;strap 7 6 below;", Bounds.POOR);
        Check.due("the last edge of all, right", large.hasStrap(6, 7, 0), true);
        Check.due("the last edge of all, below", large.hasStrap(7, 6, 1), true);
        Check.outOfBounds("right of column 7", () -> large.hasStrap(7, 7, 0));
        Check.outOfBounds("below row 7", () -> large.hasStrap(7, 7, 1));
        Check.sentence("23", "Throws IllegalArgumentException if side is out of range");
        for (int bad : Bounds.outside(0, 1)) {
            Bounds.refused("hasStrap side " + bad, Bounds.ARGUMENT, Bounds::busy, one -> one.hasStrap(1, 1, bad));
        }
        Check.sentence("23", "If several exceptions apply, the one that is listed first is thrown.");
        Bounds.refused("the side before the cell", Bounds.ARGUMENT, Bounds::busy, one -> one.hasStrap(5, 4, 2));
        Bounds.refused("the side before the second cell", Bounds.ARGUMENT, Bounds::busy, one -> one.hasStrap(4, 3, -1));
    }

    private static void emptyInRow() {
        Check.sentence("24", "Returns the number of empty cells in a row of the trunk.");
        TrunkDuel duel = Bounds.busy();
        Check.due("a complete row", duel.emptyInRow(0), 0);
        Check.due("a row of pieces and empty cells", duel.emptyInRow(1), 2);
        Check.due("the last row", duel.emptyInRow(3), 4);
        Check.due("a whole row of 8", Bounds.with("trunk 8 3;", Bounds.POOR).emptyInRow(2), 8);
        Check.due("a blocked row", Bounds.with(ALL_BLOCKED, Bounds.POOR).emptyInRow(1), 0);
        Check.sentence("24", "Throws IndexOutOfBoundsException if the row does not exist");
        for (int bad : Bounds.outside(0, 3)) {
            Bounds.refused("emptyInRow(" + bad + ")", Bounds.BOUNDS, Bounds::busy, one -> one.emptyInRow(bad));
        }
        TrunkDuel large = Bounds.with("trunk 3 8;", Bounds.POOR);
        Check.due("row 7", large.emptyInRow(7), 3);
        Check.outOfBounds("row 8", () -> large.emptyInRow(8));
    }

    private static void pieces() {
        Check.sentence("25 to 30", "Returns the shape, the rotation, the column and row of the anchor cell, the player"
                + " and the points of a piece.");
        TrunkDuel duel = Bounds.busy();
        duel.place(2, 2, 4, 3);
        int[][] due = {{3, 0, 0, 0, 0, 4}, {4, 1, 3, 0, 1, 9}, {2, 2, 4, 3, 1, 3}};
        for (int piece = 0; piece < 3; piece++) {
            for (int field = 0; field < 6; field++) {
                Check.due("number " + field + " of piece " + piece, pieceNumber(duel, field, piece), due[piece][field]);
            }
        }
        TrunkDuel span = Bounds.with("trunk 8 8;", Bounds.RICH);
        span.place(0, 3, 7, 7);
        Check.due("pieceRotation(0)", span.pieceRotation(0), 3);
        Check.due("pieceColumn(0)", span.pieceColumn(0), 7);
        Check.due("pieceRow(0)", span.pieceRow(0), 7);
        TrunkDuel points = full();
        Check.due("piecePoints(2) keeps what was scored", points.piecePoints(2), 6);
    }

    private static int pieceNumber(TrunkDuel duel, int field, int piece) {
        return switch (field) {
            case 0 -> duel.pieceShape(piece);
            case 1 -> duel.pieceRotation(piece);
            case 2 -> duel.pieceColumn(piece);
            case 3 -> duel.pieceRow(piece);
            case 4 -> duel.pieceOwner(piece);
            default -> duel.piecePoints(piece);
        };
    }

    private static void pieceNumbers() {
        Check.sentence("25 to 30", "Throws IndexOutOfBoundsException if the piece does not exist");
        for (int field = 0; field < 6; field++) {
            int asked = field;
            for (int bad : Bounds.outside(0, 1)) {
                Bounds.refused("number " + field + " of piece " + bad, Bounds.BOUNDS, Bounds::busy,
                        duel -> pieceNumber(duel, asked, bad));
            }
            for (int bad : new int[] {-1, 0, 1, Bounds.MIN, Bounds.MAX}) {
                Bounds.refused("number " + field + " of " + bad + " without a piece", Bounds.BOUNDS, TrunkDuel::new,
                        duel -> pieceNumber(duel, asked, bad));
            }
            TrunkDuel most = mostPieces();
            for (int bad : new int[] {27, 31, 32, 63, 64}) {
                Check.outOfBounds("number " + field + " of piece " + bad + " of 27", () -> pieceNumber(most, asked, bad));
            }
            most.undo();
            Check.outOfBounds("number " + field + " of an undone piece", () -> pieceNumber(most, asked, 26));
            Check.due("a number of the piece before it", pieceNumber(most, asked, 25) >= 0, true);
        }
    }

    // ---- the players

    private static void playerToMove() {
        Check.sentence("31", "Returns the player to move; NONE if the game is over.");
        TrunkDuel duel = Bounds.with("trunk 3 3;", Bounds.POOR);
        Check.due("at first", duel.playerToMove(), 0);
        duel.pass();
        Check.due("behind one pass", duel.playerToMove(), 1);
        duel.pass();
        Check.due("behind two", duel.playerToMove(), Bounds.NONE);
        duel.undo();
        Check.due("with the second undone", duel.playerToMove(), 1);
        Check.load(duel, "trunk 3 3;" + Bounds.POOR + "pass;strap 0 0 right;pass;pass;");
        Check.due("at the end of a text", duel.playerToMove(), Bounds.NONE);
    }

    private static void isOver() {
        Check.sentence("32", "Returns true if the game is over.");
        Check.due("at first", new TrunkDuel().isOver(), false);
        TrunkDuel full = full();
        Check.due("with no cell left", full.isOver(), false);
        full.pass();
        Check.due("behind one pass", full.isOver(), false);
        full.pass();
        Check.due("behind two", full.isOver(), true);
        Check.load(full, "trunk 3 3;" + Bounds.POOR);
        Check.due("behind a load()", full.isOver(), false);
    }

    private static void leader() {
        Check.sentence("33", "Returns the player with the higher score, whether the game is over or not; NONE if the"
                + " scores are equal.");
        Check.due("0 to 0", new TrunkDuel().leader(), Bounds.NONE);
        TrunkDuel duel = Bounds.with("trunk 4 3;", "player a 1 1 0 0 0 0;player b 0 1 0 0 0 0;");
        duel.place(1, 0, 0, 0);
        Check.due("3 to 0", duel.leader(), 0);
        duel.place(1, 0, 2, 0);
        Check.due("3 to 7", duel.leader(), 1);
        TrunkDuel end = Bounds.with("trunk 3 3;", "player a 1 0 0 0 0 0;player b 0 1 0 0 0 0;");
        Check.play(end, "place bar 0 0 0;place elbow 0 0 1;");
        Check.due("2 to 3", end.leader(), 1);
        Check.play(end, "pass;pass;");
        Check.due("2 to 3 at the end", end.leader(), 1);
        TrunkDuel equal = Bounds.with("trunk 3 3;", "player a 1 0 0 0 0 0;player b 1 0 0 0 0 0;");
        Check.play(equal, "place bar 0 0 0;place bar 0 0 1;pass;pass;");
        Check.due("2 to 2 at the end", equal.leader(), Bounds.NONE);
        Check.due("isOver()", equal.isOver(), true);
    }

    private static void score() {
        Check.sentence("34", "Returns the score of a player.");
        Check.due("score(0)", Bounds.busy().score(0), 4);
        Check.due("score(1)", Bounds.busy().score(1), 9);
        Check.sentence("34", "Throws IndexOutOfBoundsException if player is neither 0 nor 1");
        for (int bad : Bounds.outside(0, 1)) {
            Bounds.refused("score(" + bad + ")", Bounds.BOUNDS, Bounds::busy, duel -> duel.score(bad));
        }
    }

    private static void supply() {
        Check.sentence("35", "Returns the number of pieces of this shape that the player has left.");
        TrunkDuel duel = Bounds.with("trunk 8 8;", "player a 0 9 1 2 3 4;player b 9 0 5 6 7 8;");
        for (int shape = 0; shape <= 4; shape++) {
            Check.due("supply(0, " + shape + ")", duel.supply(0, shape), shape == 0 ? 0 : shape == 1 ? 9 : shape - 1);
            Check.due("supply(1, " + shape + ")", duel.supply(1, shape), shape == 0 ? 9 : shape == 1 ? 0 : shape + 3);
        }
        duel.place(2, 0, 0, 0);
        Check.due("supply(0, ROD) behind the last", duel.supply(0, 2), 0);
        Check.due("supply(1, ROD) of the other", duel.supply(1, 2), 5);
        Check.sentence("35", "Throws IndexOutOfBoundsException if player is neither 0 nor 1");
        for (int bad : Bounds.outside(0, 1)) {
            Bounds.refused("supply(" + bad + ", 0)", Bounds.BOUNDS, Bounds::busy, one -> one.supply(bad, 0));
        }
        Check.sentence("35", "Throws IllegalArgumentException if shape is out of range");
        for (int bad : Bounds.outside(0, 4)) {
            Bounds.refused("supply(0, " + bad + ")", Bounds.ARGUMENT, Bounds::busy, one -> one.supply(0, bad));
            Bounds.refused("supply(1, " + bad + ")", Bounds.ARGUMENT, Bounds::busy, one -> one.supply(1, bad));
        }
        Check.sentence("35", "If several exceptions apply, the one that is listed first is thrown.");
        Bounds.refused("supply(2, 5)", Bounds.BOUNDS, Bounds::busy, one -> one.supply(2, 5));
        Bounds.refused("supply(-1, -1)", Bounds.BOUNDS, Bounds::busy, one -> one.supply(-1, -1));
    }

    private static void strapsLeft() {
        Check.sentence("36", "Returns the number of straps that a player has left.");
        TrunkDuel duel = Bounds.with("trunk 8 8;", "player a 0 0 0 0 0 9;player b 0 0 0 0 0 0;");
        Check.due("strapsLeft(0)", duel.strapsLeft(0), 9);
        Check.due("strapsLeft(1)", duel.strapsLeft(1), 0);
        duel.fastenStrap(0, 0, 0);
        Check.due("strapsLeft(0) behind one", duel.strapsLeft(0), 8);
        Check.due("strapsLeft(1) behind one", duel.strapsLeft(1), 0);
        Check.sentence("36", "Throws IndexOutOfBoundsException if player is neither 0 nor 1");
        for (int bad : Bounds.outside(0, 1)) {
            Bounds.refused("strapsLeft(" + bad + ")", Bounds.BOUNDS, Bounds::busy, one -> one.strapsLeft(bad));
        }
    }

    private static void nameByte() {
        Check.sentence("37", "Returns the byte; NONE if there is no such byte.");
        TrunkDuel duel = Bounds.with("trunk 3 3;", "player a 0 0 0 0 0 0;player bcdefz 0 0 0 0 0 0;");
        Check.due("nameByte(0, 0)", duel.nameByte(0, 0), 'a');
        Check.due("nameByte(1, 0)", duel.nameByte(1, 0), 'b');
        Check.due("nameByte(1, 5)", duel.nameByte(1, 5), 'z');
        for (int bad : Bounds.outside(0, 5)) {
            Check.due("nameByte(1, " + bad + ")", duel.nameByte(1, bad), Bounds.NONE);
        }
        for (int bad : Bounds.outside(0, 0)) {
            Check.due("nameByte(0, " + bad + ")", duel.nameByte(0, bad), Bounds.NONE);
        }
        Check.load(duel, "trunk 3 3;player b 0 0 0 0 0 0;player c 0 0 0 0 0 0;");
        Check.due("nameByte(1, 1) behind a shorter name", duel.nameByte(1, 1), Bounds.NONE);
        Bounds.quiet("nameByte(0, 3)", Bounds.NONE, Bounds::busy, one -> one.nameByte(0, 3));
        Check.sentence("37", "Throws IndexOutOfBoundsException if player is neither 0 nor 1");
        for (int bad : Bounds.outside(0, 1)) {
            Bounds.refused("nameByte(" + bad + ", 0)", Bounds.BOUNDS, Bounds::busy, one -> one.nameByte(bad, 0));
            Bounds.refused("nameByte(" + bad + ", -1)", Bounds.BOUNDS, Bounds::busy, one -> one.nameByte(bad, -1));
        }
    }
}
