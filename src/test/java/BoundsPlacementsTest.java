import java.util.function.ToIntBiFunction;

/** Promises 38 to 48: each sentence that names a bound, with both sides of it. */
public final class BoundsPlacementsTest {
    private static final String POOR = "player a 0 0 0 0 0 0;player b 0 0 0 0 0 0;";
    private static final String SINGLES = "trunk 3 3;block 1 0;block 0 1;block 2 1;block 1 2;";

    public static void main(String[] args) {
        argumentsOfPlacements();
        fitsForAnyPlayer();
        misfitReasons();
        misfitPriority();
        pointsFor();
        mobility();
        fittingPlacements();
        mobilityAfter();
        mobilityAfterNone();
        mobilityAfterArguments();
        bestAlone();
        bestTies();
        bestIsTheMost();
        bestIsOfTheSupply();
        bestNone();
        strapEffect();
        strapEffectZero();
        strapEffectNone();
        Check.finish("BoundsPlacementsTest");
    }

    private static void argumentsOfPlacements() {
        refusesPlacements("38", "fits", (duel, four) -> duel.fits(four[0], four[1], four[2], four[3]) ? 1 : 0);
        refusesPlacements("39", "misfitReason", (duel, four) -> duel.misfitReason(four[0], four[1], four[2], four[3]));
        refusesPlacements("40", "pointsFor", (duel, four) -> duel.pointsFor(four[0], four[1], four[2], four[3]));
        refusesPlacements("43", "mobilityAfter", (duel, four) -> duel.mobilityAfter(four[0], four[1], four[2], four[3], 0));
        refusesPlacements("43", "mobilityAfter", (duel, four) -> duel.mobilityAfter(four[0], four[1], four[2], four[3], 1));
    }

    private static void refusesPlacements(String promise, String call, ToIntBiFunction<TrunkDuel, int[]> ask) {
        Check.sentence(promise, "Throws IllegalArgumentException if shape or rotation is out of range");
        for (int bad : Bounds.outside(0, 4)) {
            Bounds.refused(call + " shape " + bad, Bounds.ARGUMENT, Bounds::busy,
                    duel -> ask.applyAsInt(duel, new int[] {bad, 0, 2, 3}));
        }
        for (int bad : Bounds.outside(0, 3)) {
            Bounds.refused(call + " rotation " + bad, Bounds.ARGUMENT, Bounds::busy,
                    duel -> ask.applyAsInt(duel, new int[] {0, bad, 2, 3}));
        }
        Check.sentence(promise, "Throws IndexOutOfBoundsException if the anchor cell is not in the trunk");
        for (int bad : Bounds.outside(0, 4)) {
            Bounds.refused(call + " column " + bad, Bounds.BOUNDS, Bounds::busy,
                    duel -> ask.applyAsInt(duel, new int[] {0, 0, bad, 3}));
        }
        for (int bad : Bounds.outside(0, 3)) {
            Bounds.refused(call + " row " + bad, Bounds.BOUNDS, Bounds::busy,
                    duel -> ask.applyAsInt(duel, new int[] {0, 0, 2, bad}));
        }
        Check.sentence(promise, "If several exceptions apply, the one that is listed first is thrown.");
        Bounds.refused(call + " shape and cell", Bounds.ARGUMENT, Bounds::busy,
                duel -> ask.applyAsInt(duel, new int[] {5, 0, 5, 4}));
        Bounds.refused(call + " rotation and cell", Bounds.ARGUMENT, Bounds::busy,
                duel -> ask.applyAsInt(duel, new int[] {0, 4, -1, -1}));
        Bounds.refused(call + " cell at the end", Bounds.BOUNDS, Bounds::over,
                duel -> ask.applyAsInt(duel, new int[] {0, 0, 3, 0}));
        TrunkDuel large = Bounds.with("trunk 8 8;", Bounds.RICH);
        for (int shape = 0; shape <= 4; shape++) {
            for (int rotation = 0; rotation <= 3; rotation++) {
                ask.applyAsInt(large, new int[] {shape, rotation, 0, 0});
                ask.applyAsInt(large, new int[] {shape, rotation, 7, 7});
            }
        }
        Check.outOfBounds(call + " column 8", () -> ask.applyAsInt(large, new int[] {0, 0, 8, 0}));
        Check.outOfBounds(call + " row 8", () -> ask.applyAsInt(large, new int[] {0, 0, 0, 8}));
    }

    private static void fitsForAnyPlayer() {
        Check.sentence("38", "Tells whether a placement fits, whether a player has the piece or not.");
        for (String players : new String[] {POOR, Bounds.RICH}) {
            TrunkDuel duel = Bounds.with("trunk 4 3;block 3 2;", players);
            Check.due("a rod up to the border", duel.fits(2, 0, 1, 0), true);
            Check.due("a rod one cell beyond", duel.fits(2, 0, 2, 0), false);
            Check.due("a rod down to the border", duel.fits(2, 1, 0, 0), true);
            Check.due("a rod one cell below", duel.fits(2, 1, 0, 1), false);
            Check.due("a rod left to the border", duel.fits(2, 2, 2, 0), true);
            Check.due("a rod one cell before", duel.fits(2, 2, 1, 0), false);
            Check.due("a rod up to the top", duel.fits(2, 3, 0, 2), true);
            Check.due("a rod one cell above", duel.fits(2, 3, 0, 1), false);
            Check.due("a rod beside the block", duel.fits(2, 0, 0, 2), true);
            Check.due("a rod over the block", duel.fits(2, 0, 1, 2), false);
        }
        Check.due("at the end", Bounds.over().fits(3, 0, 0, 0), true);
    }

    private static void misfitReasons() {
        Check.sentence("39", "Returns 0 if it fits; 1 if a cell is outside the trunk; 2 if a cell is blocked; 3 if a cell"
                + " is covered; 4 if it crosses a strap.");
        TrunkDuel duel = Bounds.busy();
        Check.due("it fits", duel.misfitReason(2, 0, 2, 3), 0);
        Check.due("outside", duel.misfitReason(2, 0, 3, 3), 1);
        Check.due("blocked", duel.misfitReason(2, 0, 0, 3), 2);
        Check.due("the anchor is blocked", duel.misfitReason(0, 1, 4, 0), 2);
        Check.due("covered", duel.misfitReason(0, 2, 2, 1), 3);
        Check.due("the anchor is covered", duel.misfitReason(0, 1, 0, 1), 3);
        Check.due("a strap", duel.misfitReason(0, 1, 2, 2), 4);
        Check.due("a strap from the other side", duel.misfitReason(0, 3, 2, 3), 4);
        Check.due("the strap of a player", duel.misfitReason(0, 0, 1, 3), 4);
        Check.due("at the end", Bounds.over().misfitReason(3, 0, 0, 0), 0);
    }

    private static void misfitPriority() {
        Check.sentence("39", "The lowest of the reasons 1 to 4 that applies to any of its cells is returned.");
        // The corner (rotation 0 from 1, 0) lies over four cells; what lies there differs.
        String[] trunks = {"trunk 4 3;", "trunk 4 3;strap 1 0 right;", "trunk 4 3;", "trunk 4 3;strap 1 0 right;",
            "trunk 4 3;block 1 1;", "trunk 4 3;block 1 1;strap 1 0 right;", "trunk 4 3;block 1 1;",
            "trunk 4 3;block 1 1;strap 1 0 right;"};
        for (int kind = 0; kind < 8; kind++) {
            TrunkDuel duel = Bounds.with(trunks[kind], Bounds.RICH);
            if ((kind & 2) != 0) {
                duel.place(0, 1, 3, 0);
            }
            int due = (kind & 4) != 0 ? 2 : (kind & 2) != 0 ? 3 : (kind & 1) != 0 ? 4 : 0;
            Check.due("misfitReason of kind " + kind, duel.misfitReason(4, 0, 1, 0), due);
            // From the column to the right, the same corner also leaves the trunk.
            Check.due("misfitReason outside of kind " + kind, duel.misfitReason(4, 0, 2, 0), 1);
        }
        TrunkDuel late = Bounds.with("trunk 3 3;block 0 0;", Bounds.RICH);
        Check.due("the block first, the border last", late.misfitReason(2, 2, 1, 0), 1);
        Check.due("the anchor blocked, the border behind it", late.misfitReason(0, 3, 0, 0), 1);
        late.place(0, 0, 1, 0);
        Check.due("the anchor covered, the block behind it", late.misfitReason(0, 2, 1, 0), 2);
        Check.due("the anchor covered, the border behind it", late.misfitReason(0, 3, 1, 0), 1);
    }

    private static void pointsFor() {
        Check.sentence("40", "Returns the points; NONE if the placement does not fit.");
        TrunkDuel duel = Bounds.with("trunk 3 3;block 0 1;block 1 1;strap 0 0 right;", POOR);
        Check.due("no row", duel.pointsFor(0, 0, 1, 0), 2);
        Check.due("one row", duel.pointsFor(0, 1, 2, 0), 2 + 3);
        Check.due("one row of three", duel.pointsFor(2, 0, 0, 2), 3 + 3);
        Check.due("two rows", duel.pointsFor(4, 2, 2, 2), 4 + 6);
        Check.due("across the strap", duel.pointsFor(0, 0, 0, 0), Bounds.NONE);
        Check.due("over a block", duel.pointsFor(0, 1, 0, 0), Bounds.NONE);
        Check.due("outside", duel.pointsFor(0, 0, 2, 0), Bounds.NONE);
        Check.due("over a piece", Bounds.busy().pointsFor(0, 0, 0, 0), Bounds.NONE);
        Check.due("at the end", Bounds.over().pointsFor(2, 0, 0, 0), 6);
        Bounds.quiet("pointsFor()", 3, Bounds::busy, one -> one.pointsFor(2, 0, 2, 3));
        Bounds.quiet("pointsFor() of a misfit", Bounds.NONE, Bounds::busy, one -> one.pointsFor(2, 0, 1, 3));
    }

    private static void mobility() {
        Check.sentence("41", "Counts the placements that fit with shapes of the supply of a player.");
        int[] all = {224, 196, 192, 196, 168};
        for (int shape = 0; shape < 5; shape++) {
            String one = "0 ".repeat(shape) + "1" + " 0".repeat(5 - shape) + ";";
            String nine = "0 ".repeat(shape) + "9" + " 0".repeat(5 - shape) + ";";
            TrunkDuel duel = Bounds.with("trunk 8 8;", "player a " + one + "player b " + nine);
            Check.due("mobility of one of shape " + shape, duel.mobility(0), all[shape]);
            Check.due("mobility of nine of shape " + shape, duel.mobility(1), all[shape]);
        }
        Check.due("mobility of all", Bounds.with("trunk 8 8;", Bounds.RICH).mobility(1), 224 + 196 + 192 + 196 + 168);
        Check.due("mobility of none", Bounds.with("trunk 8 8;", POOR).mobility(0), 0);
        Check.due("mobility where nothing fits", Bounds.with(SINGLES, Bounds.RICH).mobility(0), 0);
        TrunkDuel last = Bounds.with("trunk 3 3;", "player a 1 0 0 0 0 0;player b 1 0 0 0 0 0;");
        last.place(0, 0, 0, 0);
        Check.due("mobility behind the last piece", last.mobility(0), 0);
        Check.due("mobility of the other", last.mobility(1), 2 * 8);
        Check.sentence("41", "Throws IndexOutOfBoundsException if player is neither 0 nor 1");
        for (int bad : Bounds.outside(0, 1)) {
            Bounds.refused("mobility(" + bad + ")", Bounds.BOUNDS, Bounds::busy, duel -> duel.mobility(bad));
        }
        Bounds.refused("mobility(2) at the end", Bounds.BOUNDS, Bounds::over, duel -> duel.mobility(2));
    }

    private static void fittingPlacements() {
        Check.sentence("42", "Counts the placements of a shape that fit, whether a player has the piece or not.");
        int[] least = {24, 16, 12, 16, 8};
        for (int shape = 0; shape < 5; shape++) {
            Check.due("without a supply", Bounds.with("trunk 3 3;", POOR).fittingPlacements(shape), least[shape]);
            Check.due("with a supply", Bounds.with("trunk 3 3;", Bounds.RICH).fittingPlacements(shape), least[shape]);
            Check.due("where nothing fits", Bounds.with(SINGLES, Bounds.RICH).fittingPlacements(shape), 0);
            Check.due("at the end", Bounds.over().fittingPlacements(shape), least[shape]);
        }
        Check.sentence("42", "Throws IllegalArgumentException if shape is out of range");
        for (int bad : Bounds.outside(0, 4)) {
            Bounds.refused("fittingPlacements(" + bad + ")", Bounds.ARGUMENT, Bounds::busy,
                    duel -> duel.fittingPlacements(bad));
        }
    }

    private static void mobilityAfter() {
        Check.sentence("43", "Returns the mobility that a player would have after the player to move had made a placement.");
        for (int player = 0; player <= 1; player++) {
            for (int shape = 0; shape < 5; shape++) {
                for (int rotation = 0; rotation < 4; rotation++) {
                    afterwards(shape, rotation, player);
                }
            }
        }
        TrunkDuel last = Bounds.with("trunk 3 3;", "player a 1 0 0 0 0 0;player b 1 0 0 0 0 0;");
        Check.due("of the mover behind the last piece", last.mobilityAfter(0, 0, 0, 0, 0), 0);
        Check.due("of the other", last.mobilityAfter(0, 0, 0, 0, 1), 16);
        TrunkDuel two = Bounds.with("trunk 3 3;", "player a 2 0 0 0 0 0;player b 0 0 0 0 0 0;");
        Check.due("of the mover behind the last but one", two.mobilityAfter(0, 0, 0, 0, 0), 16);
        Check.due("of the other without a piece", two.mobilityAfter(0, 0, 0, 0, 1), 0);
        Bounds.quiet("mobilityAfter()", 17, Bounds::busy, duel -> duel.mobilityAfter(2, 0, 2, 3, 1) > 0 ? 17 : 0);
    }

    private static void afterwards(int shape, int rotation, int player) {
        TrunkDuel asked = Bounds.with("trunk 5 5;block 0 0;strap 3 3 right;", "player a 1 2 1 2 1 1;player b 0 1 2 0 3 1;");
        TrunkDuel done = Bounds.with("trunk 5 5;block 0 0;strap 3 3 right;", "player a 1 2 1 2 1 1;player b 0 1 2 0 3 1;");
        done.place(shape, rotation, 2, 2);
        Check.due("mobilityAfter " + shape + " " + rotation + " of " + player,
                asked.mobilityAfter(shape, rotation, 2, 2, player), done.mobility(player));
    }

    private static void mobilityAfterNone() {
        Check.sentence("43", "NONE if place() would throw an IllegalStateException");
        Bounds.quiet("at the end", Bounds.NONE, Bounds::over, duel -> duel.mobilityAfter(0, 0, 0, 0, 0));
        Bounds.quiet("without the piece", Bounds.NONE, Bounds::busy, duel -> duel.mobilityAfter(4, 1, 4, 1, 0));
        Bounds.quiet("outside", Bounds.NONE, Bounds::busy, duel -> duel.mobilityAfter(2, 0, 3, 3, 1));
        Bounds.quiet("over a block", Bounds.NONE, Bounds::busy, duel -> duel.mobilityAfter(2, 0, 0, 3, 1));
        Bounds.quiet("over a piece", Bounds.NONE, Bounds::busy, duel -> duel.mobilityAfter(1, 0, 0, 0, 1));
        Bounds.quiet("over a strap", Bounds.NONE, Bounds::busy, duel -> duel.mobilityAfter(0, 1, 2, 2, 1));
        TrunkDuel other = Bounds.with("trunk 3 3;", "player a 0 0 0 0 0 0;player b 1 0 0 0 0 0;");
        Check.due("the piece of the other", other.mobilityAfter(0, 0, 0, 0, 1), Bounds.NONE);
    }

    private static void mobilityAfterArguments() {
        Check.sentence("43", "Throws IndexOutOfBoundsException if the anchor cell is not in the trunk, or player is"
                + " neither 0 nor 1");
        for (int bad : Bounds.outside(0, 1)) {
            Bounds.refused("player " + bad, Bounds.BOUNDS, Bounds::busy, duel -> duel.mobilityAfter(2, 0, 2, 3, bad));
            Bounds.refused("player " + bad + " of a misfit", Bounds.BOUNDS, Bounds::busy,
                    duel -> duel.mobilityAfter(0, 0, 0, 0, bad));
            Bounds.refused("player " + bad + " at the end", Bounds.BOUNDS, Bounds::over,
                    duel -> duel.mobilityAfter(0, 0, 0, 0, bad));
            Bounds.refused("the shape before player " + bad, Bounds.ARGUMENT, Bounds::busy,
                    duel -> duel.mobilityAfter(5, 0, 2, 3, bad));
            Bounds.refused("the rotation before player " + bad, Bounds.ARGUMENT, Bounds::busy,
                    duel -> duel.mobilityAfter(0, 4, 2, 3, bad));
        }
    }

    private static void best(String state, TrunkDuel duel, int shape, int rotation, int column, int row) {
        Check.due("bestShape() " + state, duel.bestShape(), shape);
        Check.due("bestRotation() " + state, duel.bestRotation(), rotation);
        Check.due("bestColumn() " + state, duel.bestColumn(), column);
        Check.due("bestRow() " + state, duel.bestRow(), row);
    }

    private static void bestAlone() {
        Check.sentence("44 to 47", "Returns the rotation of the placement that bestShape() finds");
        String trunk = "trunk 3 3;block 0 0;block 1 0;block 2 0;block 0 1;block 1 1;block 0 2;block 1 2;";
        Check.due("bestShape() first", Bounds.with(trunk, Bounds.RICH).bestShape(), 0);
        Check.due("bestRotation() first", Bounds.with(trunk, Bounds.RICH).bestRotation(), 1);
        Check.due("bestColumn() first", Bounds.with(trunk, Bounds.RICH).bestColumn(), 2);
        Check.due("bestRow() first", Bounds.with(trunk, Bounds.RICH).bestRow(), 1);
    }

    private static void bestTies() {
        Check.sentence("44 to 47", "A tie goes to the lower shape, then to the lower rotation, then to the lower row, and"
                + " then to the lower column.");
        String other = "player b 9 9 9 9 9 9;";
        best("elbow before rod", Bounds.with("trunk 5 5;", "player a 1 1 1 0 0 0;" + other), 1, 0, 0, 0);
        best("square before corner", Bounds.with("trunk 5 5;", "player a 1 1 1 1 1 0;" + other), 3, 0, 0, 0);
        best("corner alone", Bounds.with("trunk 5 5;", "player a 1 1 1 0 1 0;" + other), 4, 0, 0, 0);
        best("rotation 0 below before rotation 1 on top", Bounds.with("trunk 4 4;strap 0 0 right;strap 1 0 right;"
                + "strap 2 0 right;", "player a 1 0 0 0 0 0;" + other), 0, 0, 0, 1);
        best("rotation 1 before 2 and 3", Bounds.with("trunk 4 4;block 1 0;block 1 1;block 1 2;block 1 3;block 2 0;"
                + "block 2 1;block 2 2;block 2 3;block 3 0;block 3 1;block 3 2;block 3 3;",
                "player a 0 0 0 0 0 0;player b 1 0 0 0 0 0;pass;"), 0, 1, 0, 0);
        best("the lower row, though in a higher column", Bounds.with("trunk 4 4;block 0 0;block 1 0;",
                "player a 1 0 0 0 0 0;" + other), 0, 0, 2, 0);
        best("the lower column", Bounds.with("trunk 4 4;block 0 0;", "player a 1 0 0 0 0 0;" + other), 0, 0, 1, 0);
        best("the last cell of all", Bounds.with("trunk 3 3;block 0 0;block 1 0;block 2 0;block 0 1;block 1 1;block 2 1;"
                + "block 0 2;", "player a 1 0 0 0 0 0;" + other), 0, 0, 1, 2);
        best("a tie of one row each", Bounds.with("trunk 3 3;block 0 2;block 0 1;", "player a 1 0 0 0 0 0;" + other),
                0, 0, 1, 1);
    }

    private static void bestIsTheMost() {
        Check.sentence("44 to 47", "among the placements that fit with shapes of the supply of this player, the one with"
                + " the most points");
        best("three cells before two", Bounds.with("trunk 5 5;", "player a 1 0 1 0 0 0;player b 0 0 0 0 0 0;"), 2, 0, 0, 0);
        best("a row before four cells", Bounds.with("trunk 5 4;block 0 3;block 1 3;block 4 3;strap 2 2 below;"
                + "strap 3 2 below;", "player a 1 0 0 1 0 0;player b 0 0 0 0 0 0;"), 0, 0, 2, 3);
        best("two rows before one", Bounds.with("trunk 3 4;block 0 2;block 1 2;block 0 3;block 1 3;",
                "player a 1 0 1 0 0 0;player b 0 0 0 0 0 0;"), 2, 1, 2, 1);
        best("the last placement of all", Bounds.with("trunk 8 8;block 0 7;block 1 7;block 2 7;block 3 7;block 4 7;"
                + "block 5 7;", "player a 0 0 0 1 0 0;player b 0 0 0 0 0 0;"), 3, 0, 6, 6);
    }

    private static void bestIsOfTheSupply() {
        Check.sentence("44 to 47", "Finds the best placement for the player to move");
        TrunkDuel duel = Bounds.with("trunk 4 4;", "player a 0 0 1 0 0 1;player b 1 0 0 0 0 1;");
        best("of player 0", duel, 2, 0, 0, 0);
        duel.fastenStrap(3, 2, 1);
        best("of player 1", duel, 0, 0, 0, 0);
        duel.fastenStrap(2, 3, 0);
        duel.place(2, 0, 0, 0);
        best("of player 1 again", duel, 0, 1, 3, 0);
        duel.place(0, 1, 3, 0);
        best("of player 0 behind the last piece", duel, -1, -1, -1, -1);
    }

    private static void bestNone() {
        Check.sentence("44 to 47", "NONE if there is no such placement or the game is over");
        best("without a supply", Bounds.with("trunk 8 8;", "player a 0 0 0 0 0 9;player b 9 9 9 9 9 9;"), -1, -1, -1, -1);
        best("where nothing fits", Bounds.with(SINGLES, Bounds.RICH), -1, -1, -1, -1);
        best("at the end", Bounds.over(), -1, -1, -1, -1);
        best("at the end, where the pieces do not fit", Bounds.with(SINGLES, Bounds.RICH + "pass;pass;"), -1, -1, -1, -1);
        TrunkDuel later = Bounds.with("trunk 3 3;", "player a 1 0 0 0 0 0;player b 0 0 0 0 0 0;");
        best("before", later, 0, 0, 0, 0);
        Check.play(later, "place bar 0 0 0;pass;");
        best("behind the last piece", later, -1, -1, -1, -1);
        later.pass();
        best("at the end of it", later, -1, -1, -1, -1);
    }

    private static void strapEffect() {
        Check.sentence("48", "Returns how much the mobility of the other player would decrease");
        for (int shape = 0; shape < 5; shape++) {
            String other = "player b " + "0 ".repeat(shape) + "1" + " 0".repeat(5 - shape) + ";";
            strapEffectByTrial("trunk 3 3;", "player a 9 9 9 9 9 1;" + other);
            strapEffectByTrial("trunk 5 4;block 2 2;strap 0 0 right;strap 1 1 below;", "player a 0 0 0 0 0 9;" + other);
        }
        strapEffectByTrial("trunk 4 4;block 0 0;block 3 3;strap 1 1 right;", "player a 0 0 0 0 0 1;player b 1 2 3 4 5 0;");
        strapEffectByTrial("trunk 8 3;", "player a 0 0 0 0 0 1;player b 1 1 0 0 9 0;");
        strapEffectByTrial("trunk 3 8;", "player a 0 0 0 0 0 1;player b 1 1 0 0 9 0;");
        strapEffectByTrial("trunk 4 4;", "player a 1 1 1 1 1 1;player b 9 9 9 9 9 1;place square 0 1 1;");
    }

    /** Fastens a strap on each edge in turn and takes the largest decrease. */
    private static void strapEffectByTrial(String trunk, String players) {
        TrunkDuel asked = Bounds.with(trunk, players);
        int other = 1 - asked.playerToMove();
        int before = asked.mobility(other);
        int most = 0;
        for (int edge = 0; edge < asked.columns() * asked.rows() * 2; edge++) {
            TrunkDuel tried = Bounds.with(trunk, players);
            int column = edge / 2 % asked.columns();
            try {
                tried.fastenStrap(column, edge / 2 / asked.columns(), edge % 2);
                most = Math.max(most, before - tried.mobility(other));
            } catch (IllegalStateException | IndexOutOfBoundsException e) {
                most = Math.max(most, 0);
            }
        }
        Check.due("bestStrapEffect() of " + trunk + players, asked.bestStrapEffect(), most);
    }

    private static void strapEffectZero() {
        Check.sentence("48", "0 if no strap can be fastened or none reduces it");
        Check.due("without a strap", Bounds.with("trunk 3 3;", "player a 1 1 1 1 1 0;player b 1 1 1 1 1 9;")
                .bestStrapEffect(), 0);
        Check.due("with the last strap", Bounds.with("trunk 3 3;", "player a 1 1 1 1 1 1;player b 1 0 0 0 0 0;")
                .bestStrapEffect(), 2);
        Check.due("without a free edge", Bounds.with(SINGLES, Bounds.RICH).bestStrapEffect(), 0);
        Check.due("where the other has no piece", Bounds.with("trunk 3 3;", "player a 9 9 9 9 9 9;player b 0 0 0 0 0 9;")
                .bestStrapEffect(), 0);
        TrunkDuel used = Bounds.with("trunk 3 3;", "player a 0 0 0 0 0 1;player b 1 0 0 0 0 1;");
        used.fastenStrap(0, 0, 0);
        Check.due("where the other has no piece", used.bestStrapEffect(), 0);
        used.fastenStrap(0, 1, 0);
        Check.due("behind the last strap", used.bestStrapEffect(), 0);
        TrunkDuel again = Bounds.with("trunk 3 3;", "player a 0 0 0 0 0 1;player b 1 0 0 0 0 0;");
        Check.due("the first time", again.bestStrapEffect(), 2);
        Check.due("the second time", again.bestStrapEffect(), 2);
        Check.load(again, "trunk 3 3;" + POOR);
        Check.due("in another game", again.bestStrapEffect(), 0);
        Bounds.quiet("bestStrapEffect()", 0, Bounds::over, duel -> duel.bestStrapEffect() + 1);
    }

    private static void strapEffectNone() {
        Check.sentence("48", "NONE if the game is over");
        Check.due("with straps", Bounds.over().bestStrapEffect(), Bounds.NONE);
        Check.due("without straps", Bounds.with("trunk 3 3;", POOR + "pass;pass;").bestStrapEffect(), Bounds.NONE);
        Check.due("behind one pass", Bounds.with("trunk 3 3;", POOR + "pass;").bestStrapEffect(), 0);
        Check.due("with pieces that do not fit", Bounds.with(SINGLES, Bounds.RICH + "pass;pass;").bestStrapEffect(),
                Bounds.NONE);
    }
}
