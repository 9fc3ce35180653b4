/** The sentences of «Terms» 1 to 4 that name a bound, each with both sides of it. */
public final class BoundsTermsTest {
    // What the placements cover, as offsets from the anchor: columns, then rows, cell by cell.
    private static final int[][][] OFFSETS = {
        {{0, 0, 1, 0}, {0, 0, 0, 1}, {0, 0, -1, 0}, {0, 0, 0, -1}},
        {{0, 0, 1, 0, 0, 1}, {0, 0, 0, 1, -1, 0}, {0, 0, -1, 0, 0, -1}, {0, 0, 0, -1, 1, 0}},
        {{0, 0, 1, 0, 2, 0}, {0, 0, 0, 1, 0, 2}, {0, 0, -1, 0, -2, 0}, {0, 0, 0, -1, 0, -2}},
        {{0, 0, 1, 0, 0, 1, 1, 1}, {0, 0, 0, 1, -1, 0, -1, 1}, {0, 0, -1, 0, 0, -1, -1, -1},
            {0, 0, 0, -1, 1, 0, 1, -1}},
        {{0, 0, 1, 0, 2, 0, 0, 1}, {0, 0, 0, 1, 0, 2, -1, 0}, {0, 0, -1, 0, -2, 0, 0, -1},
            {0, 0, 0, -1, 0, -2, 1, 0}}};

    public static void main(String[] args) {
        sizeOfTheTrunk();
        numbersOfTheCells();
        kindsOfCells();
        edges();
        sidesOfEdges();
        shapesAtTheBorder();
        shapesOverBlocksAndPieces();
        strapsWithinShapes();
        differentPlacements();
        numbersOfThePieces();
        firstPlayer();
        supplies();
        placing();
        fastening();
        passing();
        pointsOfRows();
        rowsCompleteBefore();
        twoPasses();
        interruptedPasses();
        winner();
        connectedCells();
        regionsDoNotWrapAround();
        deadCells();
        Check.finish("BoundsTermsTest");
    }

    private static boolean loads(String text) {
        return Check.load(new TrunkDuel(), text) != Bounds.NONE;
    }

    // ---- 1. Trunk, edges and straps

    private static void sizeOfTheTrunk() {
        Check.sentence("Terms 1", "The trunk is a grid of 3 to 8 columns and 3 to 8 rows.");
        for (int columns = 0; columns <= 11; columns++) {
            for (int rows = 0; rows <= 11; rows++) {
                boolean fits = columns >= 3 && columns <= 8 && rows >= 3 && rows <= 8;
                String text = "trunk " + columns + " " + rows + ";" + Bounds.POOR;
                Check.due(text, loads(text), fits);
            }
        }
    }

    private static void numbersOfTheCells() {
        Check.sentence("Terms 1", "Columns and rows are numbered from 0; row 0 is the top row.");
        TrunkDuel duel = Bounds.with("trunk 8 8;block 0 0;block 7 0;block 7 7;", Bounds.POOR);
        Check.due("isBlocked(0, 0)", duel.isBlocked(0, 0), true);
        Check.due("isBlocked(7, 0)", duel.isBlocked(7, 0), true);
        Check.due("isBlocked(0, 7)", duel.isBlocked(0, 7), false);
        Check.due("isBlocked(7, 7)", duel.isBlocked(7, 7), true);
        duel.writeTrunk();
        Check.due("the first sign", duel.outputByte(0), '#');
        Check.due("the last sign of the top row", duel.outputByte(7), '#');
        Check.due("the first sign of the bottom row", duel.outputByte(63), '.');
        Check.due("the last sign", duel.outputByte(70), '#');
        Check.outOfBounds("isBlocked(8, 7)", () -> duel.isBlocked(8, 7));
        Check.outOfBounds("isBlocked(7, 8)", () -> duel.isBlocked(7, 8));
    }

    private static void kindsOfCells() {
        Check.sentence("Terms 1", "A cell is empty, blocked or covered by a piece.");
        TrunkDuel duel = Bounds.busy();
        for (int row = 0; row < 4; row++) {
            for (int column = 0; column < 5; column++) {
                int kinds = (duel.isBlocked(column, row) ? 1 : 0)
                        + (duel.pieceAt(column, row) != Bounds.NONE ? 1 : 0)
                        + (duel.regionSize(column, row) > 0 ? 1 : 0);
                Check.due("kinds of " + column + ", " + row, kinds, 1);
            }
        }
    }

    private static void edges() {
        Check.sentence("Terms 1", "Each pair of horizontally or vertically adjacent cells has a common edge.");
        for (int[] size : new int[][] {{3, 3}, {3, 8}, {8, 3}, {8, 8}}) {
            TrunkDuel duel = Bounds.with("trunk " + size[0] + " " + size[1] + ";", Bounds.POOR);
            int found = 0;
            for (int row = -1; row <= size[1]; row++) {
                for (int column = -1; column <= size[0]; column++) {
                    found += isEdge(duel, column, row, 0) + isEdge(duel, column, row, 1);
                }
            }
            int due = (size[0] - 1) * size[1] + size[0] * (size[1] - 1);
            Check.due("edges of " + size[0] + " x " + size[1], found, due);
        }
    }

    private static int isEdge(TrunkDuel duel, int column, int row, int side) {
        try {
            duel.hasStrap(column, row, side);
            return 1;
        } catch (IndexOutOfBoundsException e) {
            return 0;
        }
    }

    private static void sidesOfEdges() {
        Check.sentence("Terms 1", "the side RIGHT names the edge to the cell in the next column, the side"
                + " BELOW names the edge to the cell in the next row");
        TrunkDuel right = Bounds.with("trunk 3 3;strap 1 1 right;", Bounds.POOR);
        Check.due("a bar across it", right.misfitReason(0, 0, 1, 1), 4);
        Check.due("a bar to the left", right.misfitReason(0, 2, 1, 1), 0);
        Check.due("a bar down", right.misfitReason(0, 1, 1, 1), 0);
        Check.due("a bar up", right.misfitReason(0, 3, 1, 1), 0);
        TrunkDuel below = Bounds.with("trunk 3 3;strap 1 1 below;", Bounds.POOR);
        Check.due("a bar across it", below.misfitReason(0, 1, 1, 1), 4);
        Check.due("a bar up", below.misfitReason(0, 3, 1, 1), 0);
        Check.due("a bar to the right", below.misfitReason(0, 0, 1, 1), 0);
        Check.due("a bar to the left", below.misfitReason(0, 2, 1, 1), 0);
    }

    // ---- 2. Shapes, rotations and pieces

    private static boolean covers(int shape, int rotation, int right, int down) {
        int[] offsets = OFFSETS[shape][rotation];
        for (int index = 0; index < offsets.length; index += 2) {
            if (offsets[index] == right && offsets[index + 1] == down) {
                return true;
            }
        }
        return false;
    }

    private static boolean liesInside(int shape, int rotation, int column, int row, int span) {
        int[] offsets = OFFSETS[shape][rotation];
        for (int index = 0; index < offsets.length; index += 2) {
            int x = column + offsets[index];
            int y = row + offsets[index + 1];
            if (x < 0 || x >= span || y < 0 || y >= span) {
                return false;
            }
        }
        return true;
    }

    private static void shapesAtTheBorder() {
        Check.sentence("Terms 2", "A placement fits if all its cells are in the trunk and empty");
        for (int shape = 0; shape < 5; shape++) {
            for (int rotation = 0; rotation < 4; rotation++) {
                for (int span = 3; span <= 8; span++) {
                    fitsInside(shape, rotation, span);
                }
            }
        }
    }

    private static void fitsInside(int shape, int rotation, int span) {
        TrunkDuel duel = Bounds.with("trunk " + span + " " + span + ";", Bounds.POOR);
        for (int row = 0; row < span; row++) {
            for (int column = 0; column < span; column++) {
                boolean inside = liesInside(shape, rotation, column, row, span);
                Check.due("misfitReason " + shape + " " + rotation + " " + column + " " + row + " of " + span,
                        duel.misfitReason(shape, rotation, column, row), inside ? 0 : 1);
            }
        }
    }

    private static void shapesOverBlocksAndPieces() {
        Check.sentence("Terms 2", "A placement fits if all its cells are in the trunk and empty");
        for (int cell = 0; cell < 25; cell++) {
            int right = cell % 5 - 2;
            int down = cell / 5 - 2;
            TrunkDuel blocked = Bounds.with("trunk 5 5;block " + (2 + right) + " " + (2 + down) + ";", Bounds.RICH);
            TrunkDuel covered = Bounds.with("trunk 5 5;", Bounds.RICH);
            int turn = right < 2 ? 0 : 2;
            covered.place(0, turn, 2 + right, 2 + down);
            int other = right < 2 ? right + 1 : right - 1;
            for (int shape = 0; shape < 5; shape++) {
                for (int rotation = 0; rotation < 4; rotation++) {
                    boolean over = covers(shape, rotation, right, down);
                    String call = "misfitReason " + shape + " " + rotation + " with " + right + ", " + down;
                    Check.due(call, blocked.misfitReason(shape, rotation, 2, 2), over ? 2 : 0);
                    over = over || covers(shape, rotation, other, down);
                    Check.due(call, covered.misfitReason(shape, rotation, 2, 2), over ? 3 : 0);
                }
            }
        }
    }

    private static void strapsWithinShapes() {
        Check.sentence("Terms 2", "no two of its cells have a common edge with a strap");
        for (int row = 0; row < 5; row++) {
            for (int column = 0; column < 5; column++) {
                if (column < 4) {
                    strapWithin(column, row, 0);
                }
                if (row < 4) {
                    strapWithin(column, row, 1);
                }
            }
        }
    }

    private static void strapWithin(int column, int row, int side) {
        TrunkDuel duel = Bounds.with("trunk 5 5;strap " + column + " " + row
                + (side == 0 ? " right;" : " below;"), Bounds.RICH);
        for (int shape = 0; shape < 5; shape++) {
            for (int rotation = 0; rotation < 4; rotation++) {
                boolean across = covers(shape, rotation, column - 2, row - 2)
                        && covers(shape, rotation, column - 2 + 1 - side, row - 2 + side);
                Check.due("misfitReason " + shape + " " + rotation + " with " + column + " " + row + " " + side,
                        duel.misfitReason(shape, rotation, 2, 2), across ? 4 : 0);
            }
        }
    }

    private static void differentPlacements() {
        Check.sentence("Terms 2", "Two placements with different combinations are different, even if they"
                + " cover the same cells.");
        String pair = "trunk 3 3;block 2 0;block 0 1;block 1 1;block 2 1;block 0 2;block 1 2;block 2 2;";
        Check.due("bars on two cells", Bounds.with(pair, Bounds.RICH).fittingPlacements(0), 2);
        String square = "trunk 3 3;block 2 0;block 2 1;block 0 2;block 1 2;block 2 2;";
        TrunkDuel four = Bounds.with(square, Bounds.RICH);
        Check.due("squares on four cells", four.fittingPlacements(3), 4);
        Check.due("elbows on four cells", four.fittingPlacements(1), 4);
        String line = "trunk 3 3;block 0 1;block 1 1;block 2 1;block 0 2;block 1 2;block 2 2;";
        Check.due("rods on three cells", Bounds.with(line, Bounds.RICH).fittingPlacements(2), 2);
    }

    private static void numbersOfThePieces() {
        Check.sentence("Terms 2", "Pieces are numbered from 0 in the order in which they were placed.");
        TrunkDuel duel = Bounds.with("trunk 3 3;", Bounds.RICH);
        duel.place(0, 0, 1, 2);
        duel.fastenStrap(0, 0, 0);
        duel.place(0, 0, 1, 1);
        Check.due("pieceAt(1, 2)", duel.pieceAt(1, 2), 0);
        Check.due("pieceAt(1, 1)", duel.pieceAt(1, 1), 1);
        duel.undo();
        duel.place(0, 1, 0, 0);
        Check.due("pieceAt(0, 0) in the place of the undone one", duel.pieceAt(0, 0), 1);
    }

    // ---- 3. Players and turns

    private static void firstPlayer() {
        Check.sentence("Terms 3", "There are two players, 0 and 1. Player 0 moves first.");
        Check.due("playerToMove() of a new object", new TrunkDuel().playerToMove(), 0);
        TrunkDuel duel = new TrunkDuel();
        duel.place(0, 0, 0, 0);
        Check.load(duel, "trunk 3 3;" + Bounds.POOR);
        Check.due("playerToMove() of a load in player 1's turn", duel.playerToMove(), 0);
    }

    private static void supplies() {
        Check.sentence("Terms 3", "Each player has a supply of 0 to 9 pieces of each shape and 0 to 9 straps.");
        for (int place = 0; place < 12; place++) {
            for (String number : new String[] {"0", "9", "10", "11", "99", "256", "265", "2147483647",
                "2147483648", "4294967296", "4294967305", "18446744073709551616"}) {
                String text = "trunk 8 8;" + players(place, number);
                Check.due(text, loads(text), number.length() == 1);
            }
        }
        TrunkDuel nine = Bounds.with("trunk 8 8;", Bounds.RICH);
        Check.due("supply(1, CORNER)", nine.supply(1, 4), 9);
        Check.due("strapsLeft(1)", nine.strapsLeft(1), 9);
    }

    /** Two players, all of whose numbers are 1 but one. */
    private static String players(int place, String number) {
        StringBuilder text = new StringBuilder();
        for (int player = 0; player < 2; player++) {
            text.append("player ").append(player == 0 ? "a" : "b");
            for (int index = 0; index < 6; index++) {
                text.append(' ').append(player * 6 + index == place ? number : "1");
            }
            text.append(';');
        }
        return text.toString();
    }

    private static void placing() {
        Check.sentence("Terms 3", "The player may place a piece of the own supply where the placement fits.");
        for (int shape = 0; shape < 5; shape++) {
            int wanted = shape;
            TrunkDuel one = Bounds.with("trunk 8 3;", players(shape, "1"));
            Check.due("supply before " + shape, one.supply(0, shape), 1);
            one.place(shape, 0, 0, 0);
            Check.due("supply behind " + shape, one.supply(0, shape), 0);
            one.fastenStrap(7, 0, 1);
            Check.badState("the second of " + shape, () -> one.place(wanted, 0, 4, 0));
            Bounds.refused("none of " + shape, Bounds.STATE,
                    () -> Bounds.with("trunk 8 3;", players(wanted, "0")), duel -> duel.place(wanted, 0, 0, 0));
        }
    }

    private static void fastening() {
        Check.sentence("Terms 3", "The player may fasten a strap of the own supply to an edge without a"
                + " strap, unless one of the two cells is blocked or both cells are covered by the same piece.");
        TrunkDuel one = Bounds.with("trunk 4 3;", players(5, "1"));
        Check.due("the only strap", one.fastenStrap(0, 0, 0), 0);
        Check.due("a strap on the other side of the cell", one.fastenStrap(0, 0, 1), 0);
        Check.badState("one strap too many", () -> one.fastenStrap(1, 1, 0));
        TrunkDuel pieces = Bounds.with("trunk 4 3;", Bounds.RICH);
        pieces.place(2, 0, 0, 0);
        pieces.place(2, 0, 0, 1);
        Check.badState("within piece 0", () -> pieces.fastenStrap(1, 0, 0));
        Check.badState("within piece 1", () -> pieces.fastenStrap(1, 1, 0));
        Check.due("between the pieces", pieces.fastenStrap(1, 0, 1), 8);
        Check.due("between a piece and an empty cell", pieces.fastenStrap(2, 0, 0), 8);
        Check.due("between empty cells", pieces.fastenStrap(3, 0, 1), 7);
        TrunkDuel corner = Bounds.with("trunk 4 3;", Bounds.RICH);
        corner.place(4, 0, 0, 0);
        Check.badState("within a corner, below", () -> corner.fastenStrap(0, 0, 1));
        Check.due("in the hollow of a corner, right", corner.fastenStrap(0, 1, 0), 8);
        Check.due("in the hollow of a corner, below", corner.fastenStrap(1, 0, 1), 8);
    }

    private static void passing() {
        Check.sentence("Terms 3", "The player may pass, but only if none of the placements with shapes of"
                + " the own supply fits.");
        String pair = "trunk 3 3;block 2 0;block 0 1;block 1 1;block 2 1;block 0 2;block 1 2;block 2 2;";
        String single = "trunk 3 3;block 1 0;block 2 0;block 0 1;block 1 1;block 2 1;block 0 2;block 1 2;block 2 2;";
        Check.due("pass() with one cell left", Bounds.with(single, Bounds.RICH).pass(), 1);
        for (int shape = 0; shape < 5; shape++) {
            String only = "player a " + "0 ".repeat(shape) + "9" + " 0".repeat(5 - shape) + ";player b 0 0 0 0 0 0;";
            TrunkDuel wide = Bounds.with("trunk 3 3;", only);
            Check.badState("pass() where shape " + shape + " fits", wide::pass);
            TrunkDuel tight = Bounds.with(pair, only);
            if (shape == 0) {
                Check.badState("pass() where a bar fits", tight::pass);
            } else {
                Check.due("pass() where shape " + shape + " does not fit", tight.pass(), 1);
            }
        }
        Check.due("pass() behind a strap", Bounds.with(pair.replace("block 2 2;", "block 2 2;strap 0 0 right;"),
                Bounds.RICH).pass(), 1);
    }

    private static void pointsOfRows() {
        Check.sentence("Terms 3", "it scores as many points as the trunk has columns for each row that it"
                + " completes");
        String players = "player a 1 0 1 0 0 0;player b 0 0 0 0 0 0;";
        for (int columns = 3; columns <= 8; columns++) {
            for (int complete = 0; complete <= 3; complete++) {
                TrunkDuel duel = Bounds.with("trunk " + columns + " 4;" + walls(columns, complete), players);
                Check.due("a rod through " + complete + " rows of " + columns, duel.pointsFor(2, 1, 0, 0),
                        3 + complete * columns);
                Check.due("place of it", duel.place(2, 1, 0, 0), 3 + complete * columns);
                Check.due("completeRows()", duel.completeRows(), complete);
                Check.due("score(0)", duel.score(0), 3 + complete * columns);
            }
        }
        TrunkDuel almost = Bounds.with("trunk 3 3;", players);
        Check.due("a bar that leaves one cell of its row", almost.place(0, 0, 0, 0), 2);
    }

    /** Blocks all but the first cell of the first rows. */
    private static String walls(int columns, int rows) {
        StringBuilder text = new StringBuilder();
        for (int row = 0; row < rows; row++) {
            for (int column = 1; column < columns; column++) {
                text.append("block ").append(column).append(' ').append(row).append(';');
            }
        }
        return text.toString();
    }

    private static void rowsCompleteBefore() {
        Check.sentence("Terms 3", "Rows that are complete without a placement score nothing.");
        TrunkDuel duel = Bounds.with("trunk 3 4;block 0 0;block 1 0;block 2 0;", Bounds.RICH);
        Check.due("completeRows()", duel.completeRows(), 1);
        Check.due("score(0)", duel.score(0), 0);
        Check.due("place below it", duel.place(0, 0, 0, 1), 2);
        Check.due("place of a whole row", duel.place(2, 0, 0, 2), 6);
        Check.due("place below a row of pieces", duel.place(0, 0, 0, 3), 2);
        Check.due("score(0)", duel.score(0), 4);
        Check.due("score(1)", duel.score(1), 6);
    }

    private static void twoPasses() {
        Check.sentence("Terms 3", "The game is over after two passes in succession.");
        TrunkDuel duel = Bounds.with("trunk 3 3;", Bounds.POOR);
        Check.due("isOver() before", duel.isOver(), false);
        duel.pass();
        Check.due("isOver() after one", duel.isOver(), false);
        duel.pass();
        Check.due("isOver() after two", duel.isOver(), true);
    }

    private static void interruptedPasses() {
        Check.sentence("Terms 3", "Fastening a strap or placing a piece between two passes interrupts the"
                + " succession.");
        TrunkDuel strap = Bounds.with("trunk 3 3;", Bounds.POOR);
        strap.pass();
        strap.fastenStrap(0, 0, 0);
        Check.due("pass() behind a strap", strap.pass(), 1);
        Check.due("isOver()", strap.isOver(), false);
        TrunkDuel piece = Bounds.with("trunk 3 3;", "player a 0 0 0 0 0 0;player b 1 0 0 0 0 0;");
        piece.pass();
        piece.place(0, 0, 0, 0);
        Check.due("pass() behind a piece", piece.pass(), 1);
        Check.due("isOver()", piece.isOver(), false);
        Check.due("the next pass()", piece.pass(), 2);
        Check.due("isOver()", piece.isOver(), true);
    }

    private static void winner() {
        Check.sentence("Terms 3", "There is no winner if the scores are equal.");
        String players = "player a 2 0 0 0 0 0;player b 1 1 0 0 0 0;";
        TrunkDuel duel = Bounds.with("trunk 8 3;", players);
        duel.place(0, 0, 0, 0);
        Check.due("2 to 0", duel.leader(), 0);
        duel.place(0, 0, 0, 1);
        Check.due("2 to 2", duel.leader(), Bounds.NONE);
        duel.place(0, 0, 0, 2);
        Check.due("4 to 2", duel.leader(), 0);
        duel.place(1, 0, 2, 0);
        Check.due("4 to 5", duel.leader(), 1);
    }

    // ---- 4. Regions

    private static void connectedCells() {
        Check.sentence("Terms 4", "Two empty cells are connected if they have a common edge without a"
                + " strap, or through a chain of such cells.");
        String wall = "block 0 2;block 1 2;block 2 2;block 2 0;block 2 1;";
        Check.due("four cells", Bounds.with("trunk 3 3;" + wall, Bounds.POOR).regionCount(), 1);
        String[] straps = {"strap 0 0 right;", "strap 0 0 below;", "strap 1 0 below;", "strap 0 1 right;"};
        int[][] due = {{1, 2, 2, 2}, {2, 1, 2, 2}, {2, 2, 1, 2}, {2, 2, 2, 1}};
        for (int first = 0; first < 4; first++) {
            for (int second = 0; second < 4; second++) {
                String two = first == second ? straps[first] : straps[first] + straps[second];
                TrunkDuel duel = Bounds.with("trunk 3 3;" + wall + two, Bounds.POOR);
                Check.due("regionCount() with " + two, duel.regionCount(), due[first][second]);
            }
        }
        TrunkDuel diagonal = Bounds.with("trunk 3 3;block 1 0;block 0 1;block 2 1;block 1 2;", Bounds.POOR);
        Check.due("cells that touch by their corners", diagonal.regionCount(), 5);
    }

    private static void regionsDoNotWrapAround() {
        Check.sentence("Terms 4", "A region is a maximal set of connected empty cells.");
        // Only the last cell of row 0 and the first of row 1 are empty in the two top rows.
        TrunkDuel duel = Bounds.with("trunk 8 3;" + blocks(0, 0, 6) + blocks(1, 1, 7) + blocks(2, 0, 7), Bounds.POOR);
        Check.due("regionCount()", duel.regionCount(), 2);
        Check.due("largestRegion()", duel.largestRegion(), 1);
        Check.due("regionSize(7, 0)", duel.regionSize(7, 0), 1);
        Check.due("regionSize(0, 1)", duel.regionSize(0, 1), 1);
        TrunkDuel corners = Bounds.with("trunk 3 8;" + "block 0 0;" + columnOf(7), Bounds.POOR);
        Check.due("regionCount() of a whole", corners.regionCount(), 1);
        TrunkDuel most = Bounds.with("trunk 8 8;", Bounds.POOR);
        Check.due("largestRegion() of all cells", most.largestRegion(), 64);
        Check.due("regionSize(7, 7) of all cells", most.regionSize(7, 7), 64);
    }

    private static String blocks(int row, int from, int to) {
        StringBuilder text = new StringBuilder();
        for (int column = from; column <= to; column++) {
            text.append("block ").append(column).append(' ').append(row).append(';');
        }
        return text.toString();
    }

    private static String columnOf(int count) {
        StringBuilder text = new StringBuilder();
        for (int row = 1; row < count; row++) {
            text.append("block 1 ").append(row).append(';');
        }
        return text.toString();
    }

    private static void deadCells() {
        Check.sentence("Terms 4", "A cell is dead if it is empty and no placement that fits covers it, with"
                + " any of the five shapes, whether a player has a supply of the shape or not.");
        String[] around = {"strap 1 1 right;", "strap 1 1 below;", "strap 0 1 right;", "strap 1 0 below;"};
        String all = String.join("", around);
        TrunkDuel shut = Bounds.with("trunk 3 3;" + all, Bounds.POOR);
        Check.due("isDead(1, 1) behind four straps", shut.isDead(1, 1), true);
        Check.due("isDead(0, 1) beside it", shut.isDead(0, 1), false);
        Check.due("deadCells()", shut.deadCells(), 1);
        for (String one : around) {
            TrunkDuel open = Bounds.with("trunk 3 3;" + all.replace(one, ""), Bounds.POOR);
            Check.due("isDead(1, 1) without " + one, open.isDead(1, 1), false);
            Check.due("deadCells() without " + one, open.deadCells(), 0);
        }
    }
}
