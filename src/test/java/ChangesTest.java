/** Promises 8 to 13: place(), fastenStrap(), pass(), undo(), save() and restore(). */
public final class ChangesTest {
    private static final int MIN = Integer.MIN_VALUE;
    private static final int MAX = Integer.MAX_VALUE;
    private static final String POOR = "player a 0 0 0 0 0 1;player b 0 0 0 0 0 1;";

    public static void main(String[] args) {
        place();
        placeScoresRows();
        placeOutsideItsRules();
        placeArguments();
        fastenStrap();
        fastenOutsideItsRules();
        fastenArguments();
        pass();
        passesAreInterrupted();
        undo();
        undoForgetsTheNinth();
        failedCallsAreNoChanges();
        saveAndRestore();
        restoreIsAChange();
        Check.finish("ChangesTest");
    }

    private static void place() {
        TrunkDuel duel = new TrunkDuel();
        Check.due("place(ELBOW, 2, 3, 2)", duel.place(TrunkDuel.ELBOW, 2, 3, 2), 3);
        Check.due("place(ROD, 3, 0, 2)", duel.place(TrunkDuel.ROD, 3, 0, 2), 3);
        Check.due("the state", Check.view(duel), String.join("\n",
                "5x4",
                "1 . . . # ",
                "1 .|. 0 . ",
                "1 . 0_0 . ",
                "# . . . . ",
                "1 2 3 2 0 3",
                "2 3 0 2 1 3",
                "ann 2 1 1 1 1 1 score 3",
                "bob 1 3 0 0 1 2 score 3",
                "to move 0 over false"));
    }

    private static void placeScoresRows() {
        TrunkDuel one = Check.loaded("trunk 3 3;block 2 0;player a 3 0 0 0 0 0;player b 3 0 0 0 0 0;");
        Check.due("a row with a block", one.place(0, 0, 0, 0), 2 + 3);
        TrunkDuel two = Check.loaded("trunk 4 3;block 2 0;block 3 0;block 2 1;block 3 1;"
                + "player a 0 0 0 1 0 0;player b 0 0 0 0 0 0;");
        Check.due("two rows at once", two.place(3, 0, 0, 0), 4 + 8);
        TrunkDuel three = Check.loaded("trunk 8 3;block 0 0;player a 0 0 1 0 0 0;"
                + "player b 9 9 9 9 9 9;");
        Check.due("an upright rod", three.place(2, 1, 7, 0), 3);
        TrunkDuel rows = Check.loaded("trunk 3 3;block 0 0;block 0 1;block 0 2;block 1 0;block 1 1;"
                + "block 1 2;player a 0 0 1 0 0 0;player b 0 0 0 0 0 0;");
        Check.due("three rows at once", rows.place(2, 3, 2, 2), 3 + 9);
        Check.due("the score", rows.score(0), 12);
        TrunkDuel before = Check.loaded("trunk 3 3;block 0 0;block 1 0;block 2 0;"
                + "player a 1 0 0 0 0 0;player b 0 0 0 0 0 0;");
        Check.due("a row complete before scores nothing", before.place(0, 0, 0, 1), 2);
        TrunkDuel corner = Check.loaded("trunk 3 3;block 1 1;block 2 1;"
                + "player a 0 0 0 0 1 0;player b 0 0 0 0 0 0;");
        Check.due("rows of three and of one cell", corner.place(4, 0, 0, 0), 4 + 6);
    }

    private static void placeOutsideItsRules() {
        TrunkDuel duel = new TrunkDuel();
        duel.place(0, 0, 0, 0);
        String before = Check.view(duel);
        Check.badState("over a cell outside", () -> duel.place(0, 0, 4, 1));
        Check.badState("over a blocked cell", () -> duel.place(0, 0, 3, 0));
        Check.badState("over a piece", () -> duel.place(0, 0, 1, 0));
        Check.badState("over a strap", () -> duel.place(0, 0, 1, 1));
        Check.badState("without the piece", () -> duel.place(3, 0, 2, 0));
        Check.due("nothing changes", Check.view(duel), before);
        Check.due("undoableChanges()", duel.undoableChanges(), 1);
        TrunkDuel over = Check.loaded("trunk 3 3;player a 0 0 0 0 0 0;player b 0 0 0 0 0 0;pass;pass;");
        Check.badState("a game that is over", () -> over.place(0, 0, 0, 0));
        TrunkDuel other = Check.loaded("trunk 3 3;player a 0 0 0 0 0 0;player b 1 0 0 0 0 0;");
        Check.badState("with a piece of the other player", () -> other.place(0, 0, 0, 0));
        TrunkDuel last = Check.loaded("trunk 3 3;player a 1 0 0 0 0 0;player b 0 0 0 0 0 0;"
                + "place bar 0 0 0;pass;");
        Check.badState("the last piece is used up", () -> last.place(0, 0, 0, 1));
    }

    private static void placeArguments() {
        TrunkDuel duel = new TrunkDuel();
        String before = Check.view(duel);
        for (int bad : new int[] {-1, 5, MIN, MAX}) {
            Check.badArgument("shape " + bad, () -> duel.place(bad, 0, 0, 0));
            Check.badArgument("shape before the cell " + bad, () -> duel.place(bad, 0, -1, 0));
        }
        for (int bad : new int[] {-1, 4, MIN, MAX}) {
            Check.badArgument("rotation " + bad, () -> duel.place(0, bad, 0, 0));
            Check.badArgument("rotation before the cell " + bad, () -> duel.place(0, bad, 0, 9));
            Check.outOfBounds("row " + bad, () -> duel.place(0, 0, 0, bad));
        }
        for (int bad : new int[] {-1, 5, MIN, MAX}) {
            Check.outOfBounds("column " + bad, () -> duel.place(0, 0, bad, 0));
        }
        TrunkDuel over = Check.loaded("trunk 3 3;player a 0 0 0 0 0 0;player b 0 0 0 0 0 0;pass;pass;");
        Check.badArgument("the argument before the state", () -> over.place(5, 0, 0, 0));
        Check.outOfBounds("the cell before the state", () -> over.place(0, 0, 3, 0));
        Check.due("nothing changes", Check.view(duel), before);
    }

    private static void fastenStrap() {
        TrunkDuel duel = new TrunkDuel();
        Check.due("fastenStrap(0, 0, RIGHT)", duel.fastenStrap(0, 0, TrunkDuel.RIGHT), 0);
        Check.due("fastenStrap(4, 2, BELOW)", duel.fastenStrap(4, 2, TrunkDuel.BELOW), 1);
        Check.due("the state", Check.view(duel), String.join("\n",
                "5x4",
                ".|. . . # ",
                ". .|. . . ",
                ". . ._. ._",
                "# . . . . ",
                "ann 2 2 1 1 1 0 score 0",
                "bob 1 3 1 0 1 1 score 0",
                "to move 0 over false"));
        TrunkDuel covered = new TrunkDuel();
        covered.place(3, 0, 0, 0);
        Check.due("between a piece and an empty cell", covered.fastenStrap(1, 0, 0), 1);
        covered.place(0, 1, 2, 0);
        Check.due("place(ELBOW, 0, 1, 2)", covered.place(1, 0, 1, 2), 3);
        Check.due("between two pieces, below", covered.fastenStrap(1, 1, 1), 0);
    }

    private static void fastenOutsideItsRules() {
        TrunkDuel duel = new TrunkDuel();
        duel.place(3, 0, 0, 0);
        String before = Check.view(duel);
        Check.badState("an edge with a strap", () -> duel.fastenStrap(1, 1, 0));
        Check.badState("right into a blocked cell", () -> duel.fastenStrap(3, 0, 0));
        Check.badState("below a blocked cell", () -> duel.fastenStrap(4, 0, 1));
        Check.badState("right of a blocked cell", () -> duel.fastenStrap(0, 3, 0));
        Check.badState("above a blocked cell", () -> duel.fastenStrap(0, 2, 1));
        Check.badState("in a piece, right", () -> duel.fastenStrap(0, 1, 0));
        Check.badState("in a piece, below", () -> duel.fastenStrap(1, 0, 1));
        Check.due("nothing changes", Check.view(duel), before);
        Check.due("undoableChanges()", duel.undoableChanges(), 1);
        TrunkDuel poor = new TrunkDuel();
        poor.fastenStrap(0, 0, 0);
        poor.fastenStrap(0, 1, 0);
        Check.badState("without a strap", () -> poor.fastenStrap(0, 2, 0));
        TrunkDuel over = Check.loaded("trunk 3 3;" + POOR + "pass;pass;");
        Check.badState("a game that is over", () -> over.fastenStrap(0, 0, 0));
    }

    private static void fastenArguments() {
        TrunkDuel duel = new TrunkDuel();
        String before = Check.view(duel);
        for (int bad : new int[] {-1, 2, MIN, MAX}) {
            Check.badArgument("side " + bad, () -> duel.fastenStrap(0, 0, bad));
            Check.badArgument("side before the cell " + bad, () -> duel.fastenStrap(-1, 0, bad));
        }
        for (int bad : new int[] {-1, 5, MIN, MAX}) {
            Check.outOfBounds("column " + bad, () -> duel.fastenStrap(bad, 0, 0));
            Check.outOfBounds("column, below " + bad, () -> duel.fastenStrap(bad, 0, 1));
            Check.outOfBounds("row " + bad, () -> duel.fastenStrap(0, bad, 0));
            Check.outOfBounds("row, below " + bad, () -> duel.fastenStrap(0, bad, 1));
        }
        Check.outOfBounds("right of the last column", () -> duel.fastenStrap(4, 1, 0));
        Check.outOfBounds("below the last row", () -> duel.fastenStrap(1, 3, 1));
        Check.outOfBounds("row 4", () -> duel.fastenStrap(1, 4, 0));
        Check.due("nothing changes", Check.view(duel), before);
        TrunkDuel over = Check.loaded("trunk 3 3;" + POOR + "pass;pass;");
        Check.badArgument("the side before the state", () -> over.fastenStrap(0, 0, 2));
        Check.outOfBounds("the cell before the state", () -> over.fastenStrap(2, 0, 0));
    }

    private static void pass() {
        TrunkDuel duel = Check.loaded("trunk 3 3;player a 0 0 0 0 0 0;player b 0 0 0 0 0 0;");
        Check.due("pass()", duel.pass(), 1);
        Check.due("playerToMove()", duel.playerToMove(), 1);
        Check.due("isOver()", duel.isOver(), false);
        Check.due("pass()", duel.pass(), 2);
        Check.due("isOver()", duel.isOver(), true);
        Check.badState("pass() of a game that is over", duel::pass);
        Check.due("undoableChanges()", duel.undoableChanges(), 3);
        TrunkDuel free = new TrunkDuel();
        Check.badState("pass() with a placement", free::pass);
        Check.due("undoableChanges()", free.undoableChanges(), 0);
        TrunkDuel full = Check.loaded("trunk 3 3;block 1 0;block 0 1;block 2 1;block 1 2;"
                + "player a 9 9 9 9 9 0;player b 9 9 9 9 9 0;");
        Check.due("pass() with pieces that do not fit", full.pass(), 1);
        TrunkDuel last = Check.loaded("trunk 3 3;player a 0 0 0 0 1 0;player b 0 0 0 0 0 0;");
        Check.badState("pass() with a placement of a corner", last::pass);
        TrunkDuel bar = Check.loaded("trunk 3 3;player a 1 0 0 0 0 0;player b 0 0 0 0 0 0;");
        Check.badState("pass() with a placement of a bar", bar::pass);
        TrunkDuel other = Check.loaded("trunk 3 3;player a 0 0 0 0 0 0;player b 1 1 1 1 1 1;");
        Check.due("pass() while the other player could place", other.pass(), 1);
        Check.badState("pass() of the other player", other::pass);
        TrunkDuel straps = Check.loaded("trunk 3 3;" + POOR);
        Check.due("pass() with straps left", straps.pass(), 1);
    }

    private static void passesAreInterrupted() {
        TrunkDuel duel = Check.loaded("trunk 3 3;player a 0 0 0 0 0 1;player b 1 0 0 0 0 2;");
        Check.due("pass()", duel.pass(), 1);
        duel.fastenStrap(0, 0, 0);
        Check.due("pass() after a strap", duel.pass(), 1);
        duel.place(0, 0, 0, 1);
        Check.due("pass() after a piece", duel.pass(), 1);
        Check.due("pass()", duel.pass(), 2);
        Check.due("undo()", duel.undo(), 6);
        Check.due("isOver()", duel.isOver(), false);
        Check.due("pass() again", duel.pass(), 2);
        duel.undo();
        duel.undo();
        Check.due("pass() after both are undone", duel.pass(), 1);
    }

    private static void undo() {
        TrunkDuel duel = new TrunkDuel();
        String[] seen = new String[5];
        seen[0] = Check.view(duel);
        duel.place(3, 0, 0, 0);
        seen[1] = Check.view(duel);
        duel.fastenStrap(3, 3, 0);
        seen[2] = Check.view(duel);
        Check.load(duel, "trunk 3 3;player x 0 0 0 0 0 0;player y 0 0 0 0 0 0;");
        seen[3] = Check.view(duel);
        duel.pass();
        seen[4] = Check.view(duel);
        Check.play(duel, "pass;");
        Check.play(duel, "nonsense");
        duel.writeTrunk();
        duel.append(0, 0, 0, 0, 0);
        for (int left = 4; left >= 0; left--) {
            Check.due("undo()", duel.undo(), left);
            Check.due("undoableChanges()", duel.undoableChanges(), left);
            Check.due("the state with " + left, Check.view(duel), seen[left]);
        }
        Check.badState("undo() of nothing", duel::undo);
        Check.due("the error stays", duel.errorCode(), 1);
        Check.due("the offset stays", duel.errorOffset(), 0);
        Check.due("the output stays", duel.outputByte(3), 10);
        Check.due("the input stays", duel.truncateInput(20), 20);
    }

    private static void undoForgetsTheNinth() {
        TrunkDuel duel = Check.loaded("trunk 8 8;player a 9 0 0 0 0 0;player b 9 0 0 0 0 0;");
        duel.undo();
        Check.load(duel, "trunk 8 8;player a 9 0 0 0 0 0;player b 9 0 0 0 0 0;");
        String[] seen = new String[13];
        for (int change = 1; change <= 12; change++) {
            duel.place(0, 0, change % 4 * 2, change / 4);
            seen[change] = Check.view(duel);
            Check.due("undoableChanges()", duel.undoableChanges(), Math.min(8, change + 1));
        }
        for (int left = 7; left >= 0; left--) {
            Check.due("undo()", duel.undo(), left);
            Check.due("the state with " + left, Check.view(duel), seen[left + 4]);
        }
        Check.badState("undo() of the ninth", duel::undo);
        duel.place(0, 1, 0, 4);
        Check.due("undo() of a new change", duel.undo(), 0);
    }

    private static void failedCallsAreNoChanges() {
        TrunkDuel duel = new TrunkDuel();
        duel.place(0, 0, 0, 0);
        Check.badState("restore(0)", () -> duel.restore(0));
        Check.badArgument("restore(2)", () -> duel.restore(2));
        Check.play(duel, "place bar 0 0 0;");
        Check.load(duel, "trunk 3 3;");
        duel.save(0);
        Check.due("undoableChanges()", duel.undoableChanges(), 1);
        Check.due("undo()", duel.undo(), 0);
    }

    private static void saveAndRestore() {
        TrunkDuel duel = new TrunkDuel();
        for (int bad : new int[] {-1, 2, MIN, MAX}) {
            Check.badArgument("save(" + bad + ")", () -> duel.save(bad));
            Check.badArgument("restore(" + bad + ")", () -> duel.restore(bad));
        }
        Check.due("save(0)", duel.save(0), 0);
        Check.badState("restore(1)", () -> duel.restore(1));
        String first = Check.view(duel);
        duel.place(3, 0, 0, 0);
        duel.place(4, 1, 3, 0);
        String second = Check.view(duel);
        Check.due("save(1)", duel.save(1), 2);
        Check.load(duel, "trunk 3 3;player x 0 0 0 0 0 0;player y 0 0 0 0 0 0;pass;pass;");
        String third = Check.view(duel);
        Check.due("restore(0)", duel.restore(0), 0);
        Check.due("the state of slot 0", Check.view(duel), first);
        duel.place(0, 0, 0, 0);
        Check.due("restore(1)", duel.restore(1), 2);
        Check.due("the state of slot 1", Check.view(duel), second);
        duel.undo();
        duel.undo();
        duel.undo();
        Check.due("the state before the restoring", Check.view(duel), third);
        Check.due("save(0) of a game that is over", duel.save(0), 0);
        duel.restore(1);
        duel.fastenStrap(0, 2, 0);
        Check.due("restore(1) again", duel.restore(1), 2);
        Check.due("the state stays saved", Check.view(duel), second);
        duel.restore(0);
        Check.due("what save() overwrote", Check.view(duel), third);
        Check.due("isOver()", duel.isOver(), true);
    }

    private static void restoreIsAChange() {
        TrunkDuel duel = new TrunkDuel();
        Check.play(duel, "what");
        duel.writeTrunk();
        duel.append(0, 0, 0, 0, 0);
        duel.save(0);
        Check.due("save() is no change", duel.undoableChanges(), 0);
        duel.restore(0);
        Check.due("restore() is a change", duel.undoableChanges(), 1);
        Check.due("the error stays", duel.errorCode(), 1);
        Check.due("the offset stays", duel.errorOffset(), 0);
        Check.due("the output stays", duel.outputByte(0), '.');
        Check.due("the input stays", duel.truncateInput(20), 20);
        duel.undo();
        Check.due("undo() keeps what is saved", duel.restore(0), 0);
    }
}
