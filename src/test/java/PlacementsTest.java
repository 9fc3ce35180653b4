/** Promises 38 to 48: what fits, what it scores, mobility and the best placement and strap. */
public final class PlacementsTest {
    private static final int MIN = Integer.MIN_VALUE;
    private static final int MAX = Integer.MAX_VALUE;
    private static final int[][] NO_ANCHORS = {
        {-1, 0}, {5, 0}, {0, -1}, {0, 4}, {MIN, 0}, {MAX, 0}, {0, MIN}, {0, MAX}, {MAX, MAX}};
    // What each placement in the middle of an empty trunk of 5 columns and rows covers.
    private static final String[][] COVERED = {
        {"2,2 3,2", "2,2 2,3", "2,2 1,2", "2,2 2,1"},
        {"2,2 3,2 2,3", "2,2 2,3 1,2", "2,2 1,2 2,1", "2,2 2,1 3,2"},
        {"2,2 3,2 4,2", "2,2 2,3 2,4", "2,2 1,2 0,2", "2,2 2,1 2,0"},
        {"2,2 3,2 2,3 3,3", "2,2 2,3 1,2 1,3", "2,2 1,2 2,1 1,1", "2,2 2,1 3,2 3,1"},
        {"2,2 3,2 4,2 2,3", "2,2 2,3 2,4 1,2", "2,2 1,2 0,2 2,1", "2,2 2,1 2,0 3,2"}};

    public static void main(String[] args) {
        coveredCells();
        misfitReasons();
        lowestReason();
        strapsAcross();
        pointsFor();
        arguments();
        mobility();
        mobilityAfter();
        best();
        bestTies();
        bestStrapEffect();
        Check.finish("PlacementsTest");
    }

    private static void coveredCells() {
        for (int shape = 0; shape < 5; shape++) {
            for (int rotation = 0; rotation < 4; rotation++) {
                TrunkDuel duel = Check.loaded(
                        "trunk 5 5;player a 9 9 9 9 9 9;player b 9 9 9 9 9 9;");
                duel.place(shape, rotation, 2, 2);
                for (int row = 0; row < 5; row++) {
                    for (int column = 0; column < 5; column++) {
                        boolean covered = COVERED[shape][rotation].contains(column + "," + row);
                        Check.due("shape " + shape + " rotation " + rotation + " at " + column + "," + row,
                                duel.pieceAt(column, row), covered ? 0 : TrunkDuel.NONE);
                    }
                }
            }
        }
    }

    private static void reason(TrunkDuel duel, int shape, int rotation, int column, int row, int want) {
        String arguments = "(" + shape + ", " + rotation + ", " + column + ", " + row + ")";
        Check.due("misfitReason" + arguments, duel.misfitReason(shape, rotation, column, row), want);
        Check.due("fits" + arguments, duel.fits(shape, rotation, column, row), want == 0);
    }

    private static void misfitReasons() {
        TrunkDuel duel = new TrunkDuel();
        reason(duel, 1, 0, 0, 0, 0);
        reason(duel, 0, 0, 4, 1, 1);
        reason(duel, 0, 2, 0, 0, 1);
        reason(duel, 0, 3, 0, 0, 1);
        reason(duel, 0, 1, 1, 3, 1);
        reason(duel, 2, 0, 3, 2, 1);
        reason(duel, 0, 0, 3, 0, 2);
        reason(duel, 0, 1, 0, 2, 2);
        reason(duel, 3, 0, 0, 2, 2);
        reason(duel, 0, 0, 1, 1, 4);
        reason(duel, 0, 2, 2, 1, 4);
        reason(duel, 0, 3, 2, 3, 4);
        duel.place(3, 0, 0, 0);
        reason(duel, 1, 0, 0, 1, 3);
        reason(duel, 0, 0, 0, 0, 3);
        reason(duel, 0, 0, 2, 0, 0);
        Check.due("a shape without a supply", duel.supply(1, 3), 0);
        reason(duel, 3, 0, 2, 0, 0);
        TrunkDuel over = Check.loaded("trunk 3 3;player a 0 0 0 0 0 0;player b 0 0 0 0 0 0;pass;pass;");
        reason(over, 3, 0, 0, 0, 0);
    }

    private static void lowestReason() {
        TrunkDuel duel = Check.loaded("trunk 4 4;block 0 1;strap 2 0 right;strap 1 1 below;"
                + "strap 2 2 right;player a 1 1 1 1 1 1;player b 0 0 0 0 0 0;place bar 0 1 0;");
        reason(duel, 2, 0, 2, 0, 1);
        reason(duel, 3, 0, 3, 0, 1);
        reason(duel, 4, 0, 0, 0, 2);
        reason(duel, 3, 2, 1, 1, 2);
        reason(duel, 0, 0, 2, 0, 3);
        reason(duel, 2, 1, 1, 0, 3);
        reason(duel, 0, 1, 1, 1, 4);
        reason(duel, 4, 2, 0, 1, 1);
        reason(duel, 4, 3, 3, 2, 1);
    }

    private static void strapsAcross() {
        // A strap inside a square that is no neighbour of the anchor, and one just beside it.
        String players = "player a 0 0 0 1 1 0;player b 0 0 0 0 0 0;";
        TrunkDuel inside = Check.loaded("trunk 3 3;strap 1 0 below;strap 0 1 right;" + players);
        reason(inside, 3, 0, 0, 0, 4);
        reason(inside, 1, 0, 0, 0, 0);
        reason(inside, 4, 0, 0, 0, 0);
        reason(inside, 2, 0, 0, 1, 4);
        TrunkDuel beside = Check.loaded("trunk 3 3;strap 1 0 right;strap 0 1 below;" + players);
        reason(beside, 3, 0, 0, 0, 0);
        TrunkDuel far = Check.loaded("trunk 3 3;strap 1 0 right;" + players);
        reason(far, 2, 0, 0, 0, 4);
        reason(far, 4, 0, 0, 0, 4);
        reason(far, 1, 0, 0, 0, 0);
    }

    private static void pointsFor() {
        TrunkDuel duel = new TrunkDuel();
        Check.due("pointsFor an elbow", duel.pointsFor(1, 0, 0, 0), 3);
        Check.due("pointsFor across a strap", duel.pointsFor(0, 0, 1, 1), TrunkDuel.NONE);
        Check.due("pointsFor outside", duel.pointsFor(0, 0, 4, 1), TrunkDuel.NONE);
        Check.due("pointsFor blocked", duel.pointsFor(0, 0, 3, 0), TrunkDuel.NONE);
        duel.place(3, 0, 0, 0);
        Check.due("pointsFor covered", duel.pointsFor(0, 0, 0, 0), TrunkDuel.NONE);
        Check.due("pointsFor the last of a row", duel.pointsFor(0, 0, 2, 0), 7);
        Check.due("pointsFor without a supply", duel.pointsFor(3, 0, 2, 0), 9);
        Check.due("nothing is placed", duel.pieceCount(), 1);
        TrunkDuel over = Check.loaded("trunk 3 3;player a 0 0 0 0 0 0;player b 0 0 0 0 0 0;pass;pass;");
        Check.due("pointsFor at the end", over.pointsFor(2, 0, 0, 0), 6);
    }

    private static void arguments() {
        TrunkDuel duel = new TrunkDuel();
        for (int bad : new int[] {-1, 5, MIN, MAX}) {
            Check.badArgument("fits", () -> duel.fits(bad, 0, -1, 0));
            Check.badArgument("misfitReason", () -> duel.misfitReason(bad, 0, -1, 0));
            Check.badArgument("pointsFor", () -> duel.pointsFor(bad, 0, -1, 0));
            Check.badArgument("mobilityAfter", () -> duel.mobilityAfter(bad, 0, -1, 0, 2));
            Check.badArgument("fittingPlacements", () -> duel.fittingPlacements(bad));
        }
        for (int bad : new int[] {-1, 4, MIN, MAX}) {
            Check.badArgument("fits", () -> duel.fits(0, bad, -1, 0));
            Check.badArgument("misfitReason", () -> duel.misfitReason(0, bad, -1, 0));
            Check.badArgument("pointsFor", () -> duel.pointsFor(0, bad, -1, 0));
            Check.badArgument("mobilityAfter", () -> duel.mobilityAfter(0, bad, -1, 0, 2));
        }
        for (int[] bad : NO_ANCHORS) {
            Check.outOfBounds("fits", () -> duel.fits(0, 0, bad[0], bad[1]));
            Check.outOfBounds("misfitReason", () -> duel.misfitReason(0, 0, bad[0], bad[1]));
            Check.outOfBounds("pointsFor", () -> duel.pointsFor(0, 0, bad[0], bad[1]));
            Check.outOfBounds("mobilityAfter", () -> duel.mobilityAfter(0, 0, bad[0], bad[1], 0));
        }
        for (int bad : new int[] {-1, 2, MIN, MAX}) {
            Check.outOfBounds("mobility", () -> duel.mobility(bad));
            Check.outOfBounds("mobilityAfter", () -> duel.mobilityAfter(0, 0, 0, 0, bad));
            Check.outOfBounds("mobilityAfter", () -> duel.mobilityAfter(0, 0, 1, 1, bad));
        }
    }

    private static void mobility() {
        TrunkDuel duel = new TrunkDuel();
        int[] fitting = {50, 34, 30, 24, 21};
        for (int shape = 0; shape < 5; shape++) {
            Check.due("fittingPlacements(" + shape + ")", duel.fittingPlacements(shape), fitting[shape]);
        }
        Check.due("mobility(0)", duel.mobility(0), 159);
        Check.due("mobility(1)", duel.mobility(1), 135);
        TrunkDuel free = Check.loaded("trunk 3 4;player a 1 0 0 0 1 0;player b 0 0 0 2 0 0;");
        Check.due("bars", free.fittingPlacements(0), 2 * (2 * 4 + 3 * 3));
        Check.due("squares", free.fittingPlacements(3), 4 * 2 * 3);
        Check.due("rods", free.fittingPlacements(2), 2 * (4 + 3 * 2));
        Check.due("mobility(0)", free.mobility(0), 34 + free.fittingPlacements(4));
        Check.due("mobility(1)", free.mobility(1), 24);
        free.place(4, 0, 0, 0);
        Check.due("mobility(0) without the corner", free.mobility(0), free.fittingPlacements(0));
        TrunkDuel over = Check.loaded("trunk 3 3;block 1 0;block 0 1;block 2 1;block 1 2;"
                + "player a 0 0 0 0 0 0;player b 9 9 9 9 9 0;pass;pass;");
        Check.due("mobility(1) where nothing fits", over.mobility(1), 0);
    }

    private static void mobilityAfter() {
        TrunkDuel duel = Check.loaded("trunk 3 3;player a 1 0 1 0 0 0;player b 2 0 0 1 0 0;");
        String before = Check.view(duel);
        // The bar takes the top left: 10 edges are left, but player 0 has rods only.
        Check.due("mobilityAfter of the mover", duel.mobilityAfter(0, 0, 0, 0, 0), 6);
        Check.due("mobilityAfter of the other", duel.mobilityAfter(0, 0, 0, 0, 1), 2 * 8 + 4 * 2);
        Check.due("mobilityAfter without a supply", duel.mobilityAfter(1, 0, 0, 0, 0), TrunkDuel.NONE);
        Check.due("mobilityAfter of a misfit", duel.mobilityAfter(2, 0, 1, 0, 0), TrunkDuel.NONE);
        Check.due("nothing changes", Check.view(duel), before);
        Check.due("undoableChanges()", duel.undoableChanges(), 1);
        TrunkDuel over = Check.loaded("trunk 3 3;player a 0 0 0 0 0 0;player b 0 0 0 0 0 0;pass;pass;");
        Check.due("mobilityAfter at the end", over.mobilityAfter(0, 0, 0, 0, 0), TrunkDuel.NONE);
        TrunkDuel end = Check.loaded("trunk 3 3;block 0 0;block 1 0;block 2 0;block 0 1;block 1 1;"
                + "block 2 1;block 2 2;player a 1 0 0 0 0 0;player b 1 0 0 0 0 0;");
        Check.due("mobilityAfter of the last bar", end.mobilityAfter(0, 0, 0, 2, 1), 0);
    }

    private static void best(String state, TrunkDuel duel, int shape, int rotation, int column, int row) {
        Check.due("bestShape() " + state, duel.bestShape(), shape);
        Check.due("bestRotation() " + state, duel.bestRotation(), rotation);
        Check.due("bestColumn() " + state, duel.bestColumn(), column);
        Check.due("bestRow() " + state, duel.bestRow(), row);
    }

    private static void best() {
        TrunkDuel duel = new TrunkDuel();
        best("at first", duel, 3, 0, 0, 0);
        duel.place(3, 0, 0, 0);
        best("of player 1", duel, 4, 0, 2, 1);
        String upright = "trunk 3 3;block 0 0;block 1 0;block 2 0;block 0 1;block 1 1;block 0 2;"
                + "block 1 2;player a 1 0 0 0 0 0;player b 1 0 0 0 0 0;";
        Check.due("bestRotation() alone", Check.loaded(upright).bestRotation(), 1);
        Check.due("bestColumn() alone", Check.loaded(upright).bestColumn(), 2);
        Check.due("bestRow() alone", Check.loaded(upright).bestRow(), 1);
        TrunkDuel forgets = Check.loaded(upright);
        best("of one bar", forgets, 0, 1, 2, 1);
        forgets.place(0, 1, 2, 1);
        best("where nothing fits any more", forgets, -1, -1, -1, -1);
        best("that fills a row", Check.loaded("trunk 4 3;block 0 2;block 1 2;"
                + "player a 1 0 0 1 0 0;player b 0 0 0 0 0 0;"), 3, 0, 2, 1);
        best("that is smaller but fills a row", Check.loaded("trunk 5 3;block 0 0;block 2 0;"
                + "block 3 0;block 4 0;strap 0 1 right;strap 1 1 right;strap 0 1 below;strap 1 1 below;"
                + "player a 1 0 0 1 0 0;player b 0 0 0 0 0 0;"), 0, 1, 1, 0);
        best("without a supply", Check.loaded("trunk 3 3;player a 0 0 0 0 0 1;"
                + "player b 9 9 9 9 9 9;"), -1, -1, -1, -1);
        best("a rod that fills a row", Check.loaded("trunk 3 3;player a 9 9 9 9 9 1;"
                + "player b 0 0 0 0 0 0;"), 4, 0, 0, 0);
        best("at the end", Check.loaded("trunk 3 3;player a 0 0 0 0 0 0;player b 0 0 0 0 0 0;"
                + "pass;pass;"), -1, -1, -1, -1);
        best("where the pieces do not fit", Check.loaded("trunk 3 3;block 1 0;block 0 1;block 2 1;"
                + "block 1 2;player a 9 9 9 9 9 9;player b 9 9 9 9 9 9;"), -1, -1, -1, -1);
    }

    private static void bestTies() {
        String other = "player b 0 0 0 0 0 0;";
        best("lower shape", Check.loaded("trunk 5 5;player a 0 0 0 1 1 0;" + other), 3, 0, 0, 0);
        best("lower rotation", Check.loaded("trunk 4 4;block 0 0;player a 1 0 0 0 0 0;" + other),
                0, 0, 1, 0);
        best("lower row before lower column", Check.loaded("trunk 4 4;block 0 0;block 1 0;"
                + "player a 1 0 0 0 0 0;" + other), 0, 0, 2, 0);
        best("lower column", Check.loaded("trunk 4 4;block 0 0;player a 0 0 0 1 0 0;" + other),
                3, 0, 1, 0);
        best("rotation before row", Check.loaded("trunk 4 4;strap 0 0 right;strap 1 0 right;"
                + "strap 2 0 right;player a 1 0 0 0 0 0;" + other), 0, 0, 0, 1);
        best("any rotation", Check.loaded("trunk 3 3;block 0 0;strap 1 0 right;strap 0 1 right;"
                + "strap 1 1 right;strap 0 2 right;strap 1 2 right;player a 1 0 0 0 0 0;"
                + other), 0, 1, 1, 0);
    }

    private static void bestStrapEffect() {
        TrunkDuel duel = new TrunkDuel();
        Check.play(duel, "place square 0 0 0;place corner 1 3 0;");
        Check.due("bestStrapEffect()", duel.bestStrapEffect(), 6);
        duel.fastenStrap(1, 3, 0);
        TrunkDuel none = Check.loaded("trunk 3 3;player a 9 9 9 9 9 0;player b 9 9 9 9 9 9;");
        Check.due("bestStrapEffect() without a strap", none.bestStrapEffect(), 0);
        TrunkDuel idle = Check.loaded("trunk 3 3;player a 9 9 9 9 9 9;player b 0 0 0 0 0 9;");
        Check.due("bestStrapEffect() on no supply", idle.bestStrapEffect(), 0);
        TrunkDuel over = Check.loaded("trunk 3 3;player a 0 0 0 0 0 9;player b 0 0 0 0 0 0;pass;pass;");
        Check.due("bestStrapEffect() at the end", over.bestStrapEffect(), TrunkDuel.NONE);
        TrunkDuel bars = Check.loaded("trunk 3 3;player a 0 0 0 0 0 1;player b 1 0 0 0 0 0;");
        Check.due("bestStrapEffect() on bars", bars.bestStrapEffect(), 2);
        String first = "block 2 0;block 0 1;block 1 1;block 2 1;block 0 2;block 1 2;block 2 2;"
                + "player a 0 0 0 0 0 1;player b 1 0 0 0 0 0;";
        TrunkDuel edge = Check.loaded("trunk 3 3;" + first);
        Check.due("bestStrapEffect() on the first edge", edge.bestStrapEffect(), 2);
        Check.due("bestStrapEffect() again", edge.bestStrapEffect(), 2);
        edge.fastenStrap(0, 0, 0);
        Check.due("bestStrapEffect() behind it", edge.bestStrapEffect(), 0);
        TrunkDuel rods = Check.loaded("trunk 4 3;player a 0 0 0 0 0 1;player b 0 0 1 0 0 0;");
        Check.due("bestStrapEffect() on rods", rods.bestStrapEffect(), 4);
        TrunkDuel second = Check.loaded("trunk 4 3;player a 0 0 9 0 0 9;player b 0 0 0 0 0 1;"
                + "strap 0 0 right;");
        Check.due("bestStrapEffect() of player 1", second.bestStrapEffect(), 4);
        Check.due("nothing is fastened", second.strapCount(), 1);
        TrunkDuel full = Check.loaded("trunk 3 3;block 1 0;block 0 1;block 2 1;block 1 2;"
                + "player a 9 9 9 9 9 9;player b 9 9 9 9 9 9;");
        Check.due("bestStrapEffect() where no strap can be fastened", full.bestStrapEffect(), 0);
    }
}
