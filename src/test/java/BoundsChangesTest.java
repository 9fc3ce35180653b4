import java.util.function.Consumer;

/** «Terms» 6 and promises 8 to 13: each sentence that names a bound, with both sides of it. */
public final class BoundsChangesTest {
    private static final String SMALL = "trunk 3 3;player a 1 1 1 1 1 1;player b 1 1 1 1 1 1;";
    private static final String ONE_LEFT = "block 2 0;block 0 1;block 1 1;block 2 1;block 0 2;block 1 2;block 2 2;";

    public static void main(String[] args) {
        changesWithoutEffect();
        eightChanges();
        theNinthChange();
        everyKindAsTheNinth();
        longPast();
        noRedo();
        whatIsBroughtBack();
        whatIsNotAffected();
        loadKeepsTheSaved();
        placeShapes();
        placeRotations();
        placeAnchors();
        placeReturns();
        placeStates();
        placeOrder();
        fastenReturns();
        fastenSides();
        fastenCells();
        fastenStates();
        fastenOrder();
        passReturns();
        passStates();
        undoReturns();
        undoStates();
        saveReturns();
        saveSlots();
        saveOverwrites();
        restoreReturns();
        restoreSlots();
        restoreStates();
        restoreStaysSaved();
        Check.finish("BoundsChangesTest");
    }

    // ---- Terms 6

    private static void changesWithoutEffect() {
        Check.sentence("Terms 6", "Successful calls of load(), play(), place(), fastenStrap(), pass() and restore()"
                + " are changes, even if they have no effect.");
        TrunkDuel duel = Check.loaded(SMALL);
        Check.due("behind a load()", duel.undoableChanges(), 1);
        Check.load(duel, SMALL);
        Check.due("behind the same load()", duel.undoableChanges(), 2);
        Check.play(duel, "");
        Check.due("behind an empty play()", duel.undoableChanges(), 3);
        duel.save(0);
        Check.due("behind a save()", duel.undoableChanges(), 3);
        duel.restore(0);
        Check.due("behind a restore() of the present state", duel.undoableChanges(), 4);
        duel.place(0, 0, 0, 0);
        Check.due("behind a place()", duel.undoableChanges(), 5);
        duel.fastenStrap(0, 1, 0);
        Check.due("behind a fastenStrap()", duel.undoableChanges(), 6);
        TrunkDuel pass = Bounds.with("trunk 3 3;", Bounds.POOR);
        pass.pass();
        Check.due("behind a pass()", pass.undoableChanges(), 2);
        pass.undo();
        Check.due("behind an undo()", pass.undoableChanges(), 1);
    }

    /** A load() and then one strap more with each change. */
    private static TrunkDuel changed(int changes) {
        TrunkDuel duel = Check.loaded("trunk 8 8;" + Bounds.RICH);
        for (int change = 1; change < changes; change++) {
            duel.fastenStrap(change % 7, change / 7, 0);
        }
        return duel;
    }

    private static void eightChanges() {
        Check.sentence("Terms 6", "The latest 8 changes can be undone, the latest first.");
        for (int changes = 1; changes <= 17; changes++) {
            TrunkDuel duel = changed(changes);
            int kept = Math.min(changes, 8);
            Check.due("undoableChanges() of " + changes, duel.undoableChanges(), kept);
            for (int left = kept - 1; left >= 0; left--) {
                Check.due("undo() of " + changes, duel.undo(), left);
                // The load() is the first of the changes; before it there are two straps.
                int straps = changes - kept + left - 1;
                Check.due("strapCount() with " + left + " left of " + changes, duel.strapCount(),
                        straps < 0 ? 2 : straps);
                Check.due("columns() with " + left + " left of " + changes, duel.columns(), straps < 0 ? 5 : 8);
            }
            Check.badState("one undo() more", duel::undo);
        }
    }

    private static void theNinthChange() {
        Check.sentence("Terms 6", "A ninth change discards the oldest one.");
        TrunkDuel eight = changed(8);
        TrunkDuel nine = changed(9);
        for (int undone = 0; undone < 8; undone++) {
            eight.undo();
            nine.undo();
        }
        Check.due("columns() behind 8 changes undone of 8", eight.columns(), 5);
        Check.due("columns() behind 8 changes undone of 9", nine.columns(), 8);
        Check.due("strapCount() behind 8 changes undone of 9", nine.strapCount(), 0);
    }

    private static void everyKindAsTheNinth() {
        Check.sentence("Terms 6", "A ninth change discards the oldest one.");
        ninth("load()", duel -> Check.load(duel, SMALL));
        ninth("play()", duel -> Check.play(duel, ""));
        ninth("place()", duel -> duel.place(3, 0, 6, 6));
        ninth("fastenStrap()", duel -> duel.fastenStrap(7, 6, 1));
        ninth("restore()", duel -> {
            duel.save(1);
            duel.restore(1);
        });
        TrunkDuel pass = new TrunkDuel();
        for (int change = 0; change < 8; change++) {
            Check.load(pass, "trunk 3 3;" + Bounds.POOR);
        }
        pass.pass();
        Check.due("undoableChanges() with pass()", pass.undoableChanges(), 8);
        for (int left = 7; left >= 0; left--) {
            Check.due("undo() with pass()", pass.undo(), left);
        }
        Check.due("columns() with pass()", pass.columns(), 3);
    }

    private static void ninth(String call, Consumer<TrunkDuel> change) {
        TrunkDuel duel = changed(8);
        String before = Check.view(duel);
        change.accept(duel);
        Check.due("undoableChanges() with " + call, duel.undoableChanges(), 8);
        Check.due("undo() with " + call, duel.undo(), 7);
        Check.due("the state behind it", Check.view(duel), before);
        for (int left = 6; left >= 0; left--) {
            Check.due("undo() with " + call, duel.undo(), left);
        }
        Check.due("columns() with " + call, duel.columns(), 8);
        Check.badState("undo() of the discarded one", duel::undo);
    }

    private static void longPast() {
        Check.sentence("Terms 6", "The latest 8 changes can be undone, the latest first.");
        TrunkDuel duel = new TrunkDuel();
        int[] columns = new int[120];
        columns[0] = 5;
        int known = 1;
        for (int step = 0; step < 61; step++) {
            int span = 3 + step * 5 % 6;
            Check.load(duel, "trunk " + span + " 3;player a 0 0 0 0 0 0;player b 0 0 0 0 0 0;");
            columns[known] = span;
            known++;
            if (step % 3 == 2) {
                duel.undo();
                known--;
                Check.due("columns() behind step " + step, duel.columns(), columns[known - 1]);
            }
        }
        Check.due("undoableChanges()", duel.undoableChanges(), 8);
        for (int left = 7; left >= 0; left--) {
            Check.due("undo()", duel.undo(), left);
            known--;
            Check.due("columns() with " + left + " left", duel.columns(), columns[known - 1]);
        }
    }

    private static void noRedo() {
        Check.sentence("Terms 6", "An undone change cannot be redone.");
        TrunkDuel duel = new TrunkDuel();
        duel.place(0, 0, 0, 0);
        duel.place(0, 0, 0, 1);
        Check.due("undo()", duel.undo(), 1);
        Check.due("undoableChanges()", duel.undoableChanges(), 1);
        duel.fastenStrap(0, 2, 0);
        Check.due("undo() of what came in its place", duel.undo(), 1);
        Check.due("pieceCount()", duel.pieceCount(), 1);
        Check.due("undo() of the first", duel.undo(), 0);
        Check.due("pieceCount()", duel.pieceCount(), 0);
        Check.badState("undo() of an undo()", duel::undo);
        Check.due("pieceCount()", duel.pieceCount(), 0);
    }

    private static void whatIsBroughtBack() {
        Check.sentence("Terms 6", "Undo and restore bring back the trunk, the pieces, the straps, the supplies, the"
                + " scores and the turn.");
        TrunkDuel duel = new TrunkDuel();
        duel.place(3, 0, 0, 0);
        duel.fastenStrap(3, 3, 0);
        String before = Check.view(duel);
        duel.save(0);
        Check.load(duel, "trunk 8 8;block 1 1;strap 4 4 right;player x 9 9 9 9 9 9;player y 9 9 9 9 9 9;place rod 0 2 2;");
        duel.undo();
        Check.due("the state behind undo()", Check.view(duel), before);
        Check.load(duel, "trunk 3 3;" + Bounds.POOR + "pass;pass;");
        duel.restore(0);
        Check.due("the state behind restore()", Check.view(duel), before);
        Check.due("isOver()", duel.isOver(), false);
        TrunkDuel over = Bounds.over();
        over.undo();
        Check.due("isOver() behind undo() of the last pass()", over.isOver(), false);
        Check.due("pass() again", over.pass(), 2);
        over.restore(1);
        Check.due("pass() behind restore() of one pass", over.pass(), 2);
    }

    private static void whatIsNotAffected() {
        Check.sentence("Terms 6", "They do not affect the input buffer, the reported error, the output or the saved"
                + " states.");
        TrunkDuel duel = Bounds.busy();
        duel.save(1);
        duel.place(2, 0, 2, 3);
        for (int round = 0; round < 2; round++) {
            if (round == 0) {
                duel.undo();
                duel.undo();
            } else {
                duel.restore(0);
            }
            Check.due("errorCode()", duel.errorCode(), 2);
            Check.due("errorOffset()", duel.errorOffset(), 10);
            Check.due("outputByte(0)", duel.outputByte(0), 'a');
            Check.due("outputByte(2)", duel.outputByte(2), '.');
            Check.due("outputByte(22)", duel.outputByte(22), '.');
            Check.due("outputByte(23)", duel.outputByte(23), Bounds.NONE);
            Check.badArgument("truncateInput(19)", () -> duel.truncateInput(19));
            Check.due("truncateInput(18)", duel.truncateInput(18), 18);
        }
        Check.due("restore(1)", duel.restore(1), 2);
        Check.due("strapCount()", duel.strapCount(), 3);
        Check.due("restore(0)", duel.restore(0), 1);
        Check.due("strapCount()", duel.strapCount(), 2);
        duel.restore(1);
        duel.truncateInput(16);
        Check.due("play() of what is in the buffer", duel.play(), 1);
    }

    private static void loadKeepsTheSaved() {
        Check.sentence("Terms 6", "load() keeps the saved states.");
        TrunkDuel duel = Bounds.busy();
        duel.save(1);
        Check.load(duel, SMALL);
        Check.load(duel, "x");
        Check.due("restore(1)", duel.restore(1), 2);
        Check.due("restore(0)", duel.restore(0), 1);
        Check.due("columns()", duel.columns(), 5);
        TrunkDuel none = Check.loaded(SMALL);
        Check.badState("restore(0) behind a load()", () -> none.restore(0));
    }

    // ---- Promise 8

    private static TrunkDuel rich() {
        return Bounds.with("trunk 5 4;block 4 0;", Bounds.RICH);
    }

    private static void placeShapes() {
        Check.sentence("8", "`shape`: BAR, ELBOW, ROD, SQUARE or CORNER");
        for (int shape = TrunkDuel.BAR; shape <= TrunkDuel.CORNER; shape++) {
            int points = shape == 0 ? 2 : shape < 3 ? 3 : 4;
            Check.due("place of shape " + shape, rich().place(shape, 0, 0, 0), points);
        }
        Check.sentence("8", "Throws IllegalArgumentException if shape or rotation is out of range");
        for (int bad : Bounds.outside(0, 4)) {
            Bounds.refused("place(" + bad + ", 0, 0, 3)", Bounds.ARGUMENT, Bounds::busy, duel -> duel.place(bad, 0, 2, 3));
        }
    }

    private static void placeRotations() {
        Check.sentence("8", "`rotation`: 0 to 3");
        for (int rotation = 0; rotation <= 3; rotation++) {
            Check.due("place with rotation " + rotation, rich().place(1, rotation, 1, 1), 3);
        }
        Check.sentence("8", "Throws IllegalArgumentException if shape or rotation is out of range");
        for (int bad : Bounds.outside(0, 3)) {
            Bounds.refused("place(2, " + bad + ", 2, 3)", Bounds.ARGUMENT, Bounds::busy, duel -> duel.place(2, bad, 2, 3));
        }
    }

    private static void placeAnchors() {
        Check.sentence("8", "Throws IndexOutOfBoundsException if the anchor cell is not in the trunk");
        Check.due("the first cell", rich().place(0, 0, 0, 0), 2);
        Check.due("the last cell of the bottom row", rich().place(0, 2, 4, 3), 2);
        Check.due("the bottom of the first column", rich().place(0, 3, 0, 3), 2);
        Check.due("the cell below the block", rich().place(0, 1, 4, 1), 2);
        for (int bad : Bounds.outside(0, 4)) {
            Bounds.refused("place in column " + bad, Bounds.BOUNDS, Bounds::busy, duel -> duel.place(2, 0, bad, 3));
        }
        for (int bad : Bounds.outside(0, 3)) {
            Bounds.refused("place in row " + bad, Bounds.BOUNDS, Bounds::busy, duel -> duel.place(2, 0, 2, bad));
            Bounds.refused("place at " + bad + ", " + bad, Bounds.BOUNDS, Bounds::busy,
                    duel -> duel.place(2, 0, bad == 4 ? 5 : bad, bad));
        }
        TrunkDuel large = Bounds.with("trunk 8 8;", Bounds.RICH);
        Check.due("the last cell of all", large.place(0, 2, 7, 7), 2);
        Check.outOfBounds("column 8", () -> large.place(0, 2, 8, 6));
        Check.outOfBounds("row 8", () -> large.place(0, 2, 6, 8));
        TrunkDuel small = Check.loaded(SMALL);
        Check.outOfBounds("column 3", () -> small.place(0, 2, 3, 0));
        Check.outOfBounds("row 3", () -> small.place(0, 0, 0, 3));
        Check.due("cell 2, 2", small.place(0, 2, 2, 2), 2);
    }

    private static void placeReturns() {
        Check.sentence("8", "Returns the points that the placement scores.");
        TrunkDuel duel = Bounds.with("trunk 3 3;", Bounds.RICH);
        Check.due("no row", duel.place(0, 0, 0, 0), 2);
        Check.due("three cells and no row", duel.place(2, 1, 2, 0), 6);
        Check.due("two rows", duel.place(3, 0, 0, 1), 4 + 6);
        Check.due("score(0)", duel.score(0), 12);
        Check.due("score(1)", duel.score(1), 6);
    }

    private static void placeStates() {
        Check.sentence("8", "Throws IllegalStateException if the game is over, the player has no piece of the shape, or"
                + " the placement does not fit");
        Bounds.refused("place() at the end", Bounds.STATE, Bounds::over, duel -> duel.place(0, 0, 0, 0));
        Bounds.refused("place() without the piece", Bounds.STATE, Bounds::busy, duel -> duel.place(4, 0, 2, 2));
        Bounds.refused("place() outside", Bounds.STATE, Bounds::busy, duel -> duel.place(2, 0, 3, 3));
        Bounds.refused("place() over a block", Bounds.STATE, Bounds::busy, duel -> duel.place(2, 0, 0, 3));
        Bounds.refused("place() over a piece", Bounds.STATE, Bounds::busy, duel -> duel.place(1, 0, 1, 1));
        Bounds.refused("place() over a strap", Bounds.STATE, Bounds::busy, duel -> duel.place(0, 1, 2, 2));
        Bounds.refused("place() over the strap of a player", Bounds.STATE, Bounds::busy, duel -> duel.place(0, 0, 1, 3));
        Bounds.refused("place() of the piece of the other", Bounds.STATE,
                () -> Bounds.with("trunk 3 3;", "player a 0 1 1 1 1 1;player b 1 1 1 1 1 1;"),
                duel -> duel.place(0, 0, 0, 0));
        TrunkDuel free = Bounds.busy();
        Check.due("place() beside all that", free.place(2, 0, 2, 3), 3);
    }

    private static void placeOrder() {
        Check.sentence("8", "If several exceptions apply, the one that is listed first is thrown.");
        Bounds.refused("shape before the cell", Bounds.ARGUMENT, Bounds::busy, duel -> duel.place(5, 0, 5, 4));
        Bounds.refused("rotation before the cell", Bounds.ARGUMENT, Bounds::busy, duel -> duel.place(0, 4, -1, 0));
        Bounds.refused("shape before the end", Bounds.ARGUMENT, Bounds::over, duel -> duel.place(-1, 0, 0, 0));
        Bounds.refused("rotation before the end", Bounds.ARGUMENT, Bounds::over, duel -> duel.place(0, -1, 0, 0));
        Bounds.refused("all three", Bounds.ARGUMENT, Bounds::over, duel -> duel.place(0, -1, 3, 3));
        Bounds.refused("the cell before the end", Bounds.BOUNDS, Bounds::over, duel -> duel.place(0, 0, 3, 0));
        Bounds.refused("the cell before the supply", Bounds.BOUNDS, Bounds::busy, duel -> duel.place(4, 0, 0, 4));
        Bounds.refused("the cell before the misfit", Bounds.BOUNDS, Bounds::busy, duel -> duel.place(0, 0, 5, 0));
    }

    // ---- Promise 9

    private static void fastenReturns() {
        Check.sentence("9", "Returns the number of straps that the player has left.");
        TrunkDuel duel = Bounds.with("trunk 8 8;", Bounds.RICH);
        for (int strap = 0; strap < 18; strap++) {
            Check.due("fastenStrap() " + strap, duel.fastenStrap(strap % 7, strap / 7, 0), 8 - strap / 2);
        }
        Check.badState("fastenStrap() without a strap", () -> duel.fastenStrap(0, 7, 0));
        Check.due("strapCount()", duel.strapCount(), 18);
    }

    private static void fastenSides() {
        Check.sentence("9", "Throws IllegalArgumentException if side is out of range");
        Check.due("RIGHT", rich().fastenStrap(0, 0, TrunkDuel.RIGHT), 8);
        Check.due("BELOW", rich().fastenStrap(0, 0, TrunkDuel.BELOW), 8);
        for (int bad : Bounds.outside(0, 1)) {
            Bounds.refused("fastenStrap(2, 2, " + bad + ")", Bounds.ARGUMENT, Bounds::busy,
                    duel -> duel.fastenStrap(2, 2, bad));
        }
    }

    private static void fastenCells() {
        Check.sentence("9", "Throws IndexOutOfBoundsException if one of the two cells of the edge is not in the trunk");
        Check.due("the last edge right", rich().fastenStrap(3, 3, 0), 8);
        Check.due("the last edge below", rich().fastenStrap(4, 2, 1), 8);
        Check.due("the first edge right", rich().fastenStrap(0, 0, 0), 8);
        Check.due("the first edge below", rich().fastenStrap(0, 0, 1), 8);
        Bounds.refused("right of the last column", Bounds.BOUNDS, Bounds::busy, duel -> duel.fastenStrap(4, 2, 0));
        Bounds.refused("below the last row", Bounds.BOUNDS, Bounds::busy, duel -> duel.fastenStrap(3, 3, 1));
        for (int bad : Bounds.outside(0, 4)) {
            Bounds.refused("right, column " + bad, Bounds.BOUNDS, Bounds::busy, duel -> duel.fastenStrap(bad, 2, 0));
            Bounds.refused("below, column " + bad, Bounds.BOUNDS, Bounds::busy, duel -> duel.fastenStrap(bad, 2, 1));
        }
        for (int bad : Bounds.outside(0, 3)) {
            Bounds.refused("right, row " + bad, Bounds.BOUNDS, Bounds::busy, duel -> duel.fastenStrap(2, bad, 0));
            Bounds.refused("below, row " + bad, Bounds.BOUNDS, Bounds::busy, duel -> duel.fastenStrap(2, bad, 1));
        }
        TrunkDuel large = Bounds.with("trunk 8 8;", Bounds.RICH);
        Check.outOfBounds("right of column 7", () -> large.fastenStrap(7, 3, 0));
        Check.outOfBounds("below row 7", () -> large.fastenStrap(3, 7, 1));
        Check.due("the last edge of all, right", large.fastenStrap(6, 7, 0), 8);
        Check.due("the last edge of all, below", large.fastenStrap(7, 6, 1), 8);
        Check.due("strapCount()", large.strapCount(), 2);
    }

    private static void fastenStates() {
        Check.sentence("9", "Throws IllegalStateException if the game is over, the player has no strap, the edge has a"
                + " strap, one of the cells is blocked, or both cells are covered by the same piece");
        Bounds.refused("at the end", Bounds.STATE, Bounds::over, duel -> duel.fastenStrap(0, 0, 0));
        Bounds.refused("without a strap", Bounds.STATE,
                () -> Bounds.with("trunk 3 3;", "player a 1 1 1 1 1 0;player b 1 1 1 1 1 1;"),
                duel -> duel.fastenStrap(0, 0, 0));
        Bounds.refused("on a strap of the setup", Bounds.STATE, Bounds::busy, duel -> duel.fastenStrap(1, 1, 0));
        Bounds.refused("on a strap of the setup, below", Bounds.STATE, Bounds::busy, duel -> duel.fastenStrap(2, 2, 1));
        Bounds.refused("on a strap of a player", Bounds.STATE, Bounds::busy, duel -> duel.fastenStrap(1, 3, 0));
        Bounds.refused("below a block", Bounds.STATE, Bounds::busy, duel -> duel.fastenStrap(4, 0, 1));
        Bounds.refused("above a block", Bounds.STATE, Bounds::busy, duel -> duel.fastenStrap(0, 2, 1));
        Bounds.refused("right of a block", Bounds.STATE, Bounds::busy, duel -> duel.fastenStrap(0, 3, 0));
        Bounds.refused("left of a block", Bounds.STATE, Bounds::busy, duel -> duel.fastenStrap(3, 0, 0));
        Bounds.refused("between two blocks", Bounds.STATE,
                () -> Bounds.with("trunk 3 3;block 0 0;block 1 0;", Bounds.RICH), duel -> duel.fastenStrap(0, 0, 0));
        Bounds.refused("within piece 0, right", Bounds.STATE, Bounds::busy, duel -> duel.fastenStrap(0, 0, 0));
        Bounds.refused("within piece 0, below", Bounds.STATE, Bounds::busy, duel -> duel.fastenStrap(1, 0, 1));
        Bounds.refused("within piece 1", Bounds.STATE, Bounds::busy, duel -> duel.fastenStrap(3, 1, 1));
        Check.due("between pieces 0 and 1", Bounds.busy().fastenStrap(1, 0, 0), 1);
        Check.due("between piece 0 and an empty cell", Bounds.busy().fastenStrap(0, 1, 1), 1);
    }

    private static void fastenOrder() {
        Check.sentence("9", "If several exceptions apply, the one that is listed first is thrown.");
        Bounds.refused("the side before the cell", Bounds.ARGUMENT, Bounds::busy, duel -> duel.fastenStrap(-1, 0, 2));
        Bounds.refused("the side before the second cell", Bounds.ARGUMENT, Bounds::busy,
                duel -> duel.fastenStrap(4, 3, -1));
        Bounds.refused("the side before the end", Bounds.ARGUMENT, Bounds::over, duel -> duel.fastenStrap(0, 0, 2));
        Bounds.refused("the side before both", Bounds.ARGUMENT, Bounds::over, duel -> duel.fastenStrap(3, 0, 2));
        Bounds.refused("the cell before the end", Bounds.BOUNDS, Bounds::over, duel -> duel.fastenStrap(2, 0, 0));
        Bounds.refused("the second cell before the block", Bounds.BOUNDS, Bounds::busy,
                duel -> duel.fastenStrap(4, 0, 0));
        Bounds.refused("the second cell below before the block", Bounds.BOUNDS, Bounds::busy,
                duel -> duel.fastenStrap(0, 3, 1));
    }

    // ---- Promise 10

    private static void passReturns() {
        Check.sentence("10", "Returns the number of passes in succession, 1 or 2.");
        TrunkDuel duel = Bounds.with("trunk 3 3;", Bounds.POOR);
        Check.due("the first pass()", duel.pass(), 1);
        Check.due("the second pass()", duel.pass(), 2);
        duel.undo();
        Check.due("the second pass() again", duel.pass(), 2);
        duel.undo();
        duel.undo();
        Check.due("the first pass() again", duel.pass(), 1);
        duel.fastenStrap(0, 0, 0);
        Check.due("pass() behind a strap", duel.pass(), 1);
        Check.load(duel, "trunk 3 3;" + Bounds.POOR);
        Check.due("pass() behind a load()", duel.pass(), 1);
        Check.load(duel, "trunk 3 3;" + Bounds.POOR + "pass;");
        Check.due("pass() behind the pass of a setup", duel.pass(), 2);
        duel.undo();
        Check.play(duel, "pass;");
        Check.due("isOver() behind the pass of a script", duel.isOver(), true);
    }

    private static void passStates() {
        Check.sentence("10", "Throws IllegalStateException if the game is over, or a placement with a shape of the"
                + " supply of the player to move fits");
        Bounds.refused("pass() at the end", Bounds.STATE, Bounds::over, TrunkDuel::pass);
        Bounds.refused("pass() with a placement", Bounds.STATE, Bounds::busy, TrunkDuel::pass);
        Bounds.refused("pass() with one bar on two cells", Bounds.STATE,
                () -> Bounds.with("trunk 3 3;" + ONE_LEFT, "player a 1 0 0 0 0 0;player b 0 0 0 0 0 0;"), TrunkDuel::pass);
        Check.due("pass() with one strap between them", Bounds.with("trunk 3 3;" + ONE_LEFT + "strap 0 0 right;",
                "player a 1 0 0 0 0 0;player b 0 0 0 0 0 0;").pass(), 1);
        Check.due("pass() where only the other has a bar", Bounds.with("trunk 3 3;" + ONE_LEFT,
                "player a 0 9 9 9 9 9;player b 1 0 0 0 0 0;").pass(), 1);
        TrunkDuel other = Bounds.with("trunk 3 3;", "player a 0 0 0 0 0 0;player b 0 0 0 0 1 0;");
        other.pass();
        Check.badState("pass() of the other, who has a corner", other::pass);
    }

    // ---- Promises 11 to 13

    private static void undoReturns() {
        Check.sentence("11", "Returns the number of changes that can still be undone.");
        for (int changes : new int[] {1, 2, 7, 8, 9, 16, 17}) {
            TrunkDuel duel = changed(changes);
            Check.due("undo() of " + changes, duel.undo(), Math.min(changes, 8) - 1);
            Check.due("undoableChanges()", duel.undoableChanges(), Math.min(changes, 8) - 1);
        }
    }

    private static void undoStates() {
        Check.sentence("11", "Throws IllegalStateException if there is no change to undo");
        Bounds.refused("undo() of a new object", Bounds.STATE, TrunkDuel::new, TrunkDuel::undo);
        Bounds.refused("undo() behind all", Bounds.STATE, BoundsChangesTest::allUndone, TrunkDuel::undo);
    }

    private static TrunkDuel allUndone() {
        TrunkDuel duel = Bounds.busy();
        for (int left = 2; left >= 0; left--) {
            Check.due("undo()", duel.undo(), left);
        }
        return duel;
    }

    private static void saveReturns() {
        Check.sentence("12", "Returns the number of pieces in the trunk.");
        TrunkDuel duel = Bounds.with("trunk 8 8;", Bounds.RICH);
        Check.due("save() of no piece", duel.save(0), 0);
        for (int bar = 0; bar < 18; bar++) {
            duel.place(0, 0, bar % 4 * 2, bar / 4);
            Check.due("save()", duel.save(bar % 2), bar + 1);
        }
        Check.sentence("12", "This is not a change.");
        TrunkDuel busy = Bounds.busy();
        busy.save(0);
        busy.save(1);
        Check.due("undoableChanges() behind save()", busy.undoableChanges(), 3);
        Check.due("undo() of the strap before them", busy.undo(), 2);
        Check.due("strapCount()", busy.strapCount(), 2);
    }

    private static void saveSlots() {
        Check.sentence("12", "`slot`: 0 or 1");
        Check.due("save(0)", new TrunkDuel().save(0), 0);
        Check.due("save(1)", new TrunkDuel().save(1), 0);
        Check.sentence("12", "Throws IllegalArgumentException if slot is out of range");
        for (int bad : Bounds.outside(0, 1)) {
            Bounds.refused("save(" + bad + ")", Bounds.ARGUMENT, Bounds::busy, duel -> duel.save(bad));
            Bounds.refused("save(" + bad + ") of a new object", Bounds.ARGUMENT, TrunkDuel::new, duel -> duel.save(bad));
        }
    }

    private static void saveOverwrites() {
        Check.sentence("12", "Saves the state in a slot and overwrites what was saved there.");
        TrunkDuel duel = Bounds.busy();
        duel.save(1);
        Check.load(duel, SMALL);
        Check.due("save(0)", duel.save(0), 0);
        Check.due("restore(1)", duel.restore(1), 2);
        Check.due("columns() of slot 1", duel.columns(), 5);
        duel.restore(0);
        Check.due("columns() of slot 0", duel.columns(), 3);
        duel.restore(1);
        duel.save(0);
        Check.load(duel, SMALL);
        Check.due("restore(0)", duel.restore(0), 2);
    }

    private static void restoreReturns() {
        Check.sentence("13", "Returns the number of pieces in the trunk afterwards.");
        TrunkDuel duel = new TrunkDuel();
        duel.save(0);
        duel.place(3, 0, 0, 0);
        duel.save(1);
        Check.due("restore(0)", duel.restore(0), 0);
        Check.due("pieceCount()", duel.pieceCount(), 0);
        Check.due("restore(1)", duel.restore(1), 1);
        Check.due("pieceCount()", duel.pieceCount(), 1);
    }

    private static void restoreSlots() {
        Check.sentence("13", "Throws IllegalArgumentException if slot is out of range");
        for (int bad : Bounds.outside(0, 1)) {
            Bounds.refused("restore(" + bad + ")", Bounds.ARGUMENT, Bounds::busy, duel -> duel.restore(bad));
            Bounds.refused("restore(" + bad + ") of a new object", Bounds.ARGUMENT, TrunkDuel::new,
                    duel -> duel.restore(bad));
        }
    }

    private static void restoreStates() {
        Check.sentence("13", "Throws IllegalStateException if nothing is saved in the slot");
        Bounds.refused("restore(1)", Bounds.STATE, Bounds::busy, duel -> duel.restore(1));
        Bounds.refused("restore(0)", Bounds.STATE, Bounds::over, duel -> duel.restore(0));
        Bounds.refused("restore(0) of a new object", Bounds.STATE, TrunkDuel::new, duel -> duel.restore(0));
        Bounds.refused("restore(1) of a new object", Bounds.STATE, TrunkDuel::new, duel -> duel.restore(1));
        Check.due("restore(0) where something is saved", Bounds.busy().restore(0), 1);
        Check.due("restore(1) where something is saved", Bounds.over().restore(1), 0);
    }

    private static void restoreStaysSaved() {
        Check.sentence("13", "Makes a saved state the present state. The state stays saved.");
        TrunkDuel duel = Bounds.busy();
        for (int round = 0; round < 3; round++) {
            Check.due("restore(0)", duel.restore(0), 1);
            Check.due("strapCount()", duel.strapCount(), 2);
            Check.due("playerToMove()", duel.playerToMove(), 1);
            duel.place(4, 1, 3, 0);
            duel.fastenStrap(0, 2, 0);
        }
        Check.due("undoableChanges()", duel.undoableChanges(), 8);
    }
}
