/** Promises 31 to 37: the turn, the scores, the supplies and the names. */
public final class PlayersTest {
    private static final int[] BAD = {-1, 2, Integer.MIN_VALUE, Integer.MAX_VALUE};

    public static void main(String[] args) {
        turn();
        leaderAndScore();
        supply();
        strapsLeft();
        nameByte();
        Check.finish("PlayersTest");
    }

    private static void turn() {
        TrunkDuel duel = Check.loaded("trunk 3 3;player a 1 0 0 0 0 0;player b 0 0 0 0 0 1;");
        Check.due("playerToMove()", duel.playerToMove(), 0);
        duel.place(0, 0, 0, 0);
        Check.due("playerToMove() after a piece", duel.playerToMove(), 1);
        duel.fastenStrap(0, 1, 0);
        Check.due("playerToMove() after a strap", duel.playerToMove(), 0);
        duel.pass();
        Check.due("playerToMove() after a pass", duel.playerToMove(), 1);
        Check.due("isOver() after a pass", duel.isOver(), false);
        duel.pass();
        Check.due("playerToMove() at the end", duel.playerToMove(), TrunkDuel.NONE);
        Check.due("isOver() at the end", duel.isOver(), true);
    }

    private static void leaderAndScore() {
        TrunkDuel duel = new TrunkDuel();
        Check.due("leader()", duel.leader(), TrunkDuel.NONE);
        duel.place(3, 0, 0, 0);
        Check.due("leader()", duel.leader(), 0);
        Check.due("score(0)", duel.score(0), 4);
        Check.due("score(1)", duel.score(1), 0);
        duel.place(4, 1, 3, 0);
        Check.due("leader()", duel.leader(), 1);
        Check.due("score(0)", duel.score(0), 4);
        Check.due("score(1)", duel.score(1), 9);
        TrunkDuel even = Check.loaded("trunk 3 3;player a 1 0 0 0 0 0;player b 1 0 0 0 0 0;"
                + "place bar 1 0 0;place bar 1 1 0;pass;pass;");
        Check.due("leader() with equal scores", even.leader(), TrunkDuel.NONE);
        Check.due("score(1)", even.score(1), 2);
        TrunkDuel over = Check.loaded("trunk 3 3;player a 1 0 0 0 0 0;player b 0 0 0 0 0 0;"
                + "place bar 1 0 0;pass;pass;");
        Check.due("leader() at the end", over.leader(), 0);
        for (int bad : BAD) {
            Check.outOfBounds("score(" + bad + ")", () -> duel.score(bad));
        }
    }

    private static void supply() {
        TrunkDuel duel = Check.loaded("trunk 8 8;player a 0 1 2 3 4 5;player b 9 8 7 6 5 4;");
        for (int shape = 0; shape < 5; shape++) {
            Check.due("supply(0, " + shape + ")", duel.supply(0, shape), shape);
            Check.due("supply(1, " + shape + ")", duel.supply(1, shape), 9 - shape);
        }
        duel.place(1, 0, 0, 0);
        Check.due("supply(0, 1) after a piece", duel.supply(0, 1), 0);
        Check.due("supply(1, 1) after a piece", duel.supply(1, 1), 8);
        for (int bad : BAD) {
            Check.outOfBounds("supply of player " + bad, () -> duel.supply(bad, 0));
            Check.outOfBounds("the player before the shape " + bad, () -> duel.supply(bad, 9));
        }
        for (int bad : new int[] {-1, 5, Integer.MIN_VALUE, Integer.MAX_VALUE}) {
            Check.badArgument("supply of shape " + bad, () -> duel.supply(1, bad));
        }
    }

    private static void strapsLeft() {
        TrunkDuel duel = new TrunkDuel();
        Check.due("strapsLeft(0)", duel.strapsLeft(0), 1);
        Check.due("strapsLeft(1)", duel.strapsLeft(1), 2);
        duel.fastenStrap(0, 0, 0);
        Check.due("strapsLeft(0)", duel.strapsLeft(0), 0);
        Check.due("strapsLeft(1)", duel.strapsLeft(1), 2);
        duel.fastenStrap(0, 1, 0);
        Check.due("strapsLeft(1)", duel.strapsLeft(1), 1);
        for (int bad : BAD) {
            Check.outOfBounds("strapsLeft(" + bad + ")", () -> duel.strapsLeft(bad));
        }
    }

    private static void nameByte() {
        TrunkDuel duel = Check.loaded("trunk 3 3;player x 0 0 0 0 0 0;player corner 0 0 0 0 0 0;");
        Check.due("nameByte(0, 0)", duel.nameByte(0, 0), 'x');
        Check.due("nameByte(0, 1)", duel.nameByte(0, 1), TrunkDuel.NONE);
        for (int index = 0; index < 6; index++) {
            Check.due("nameByte(1, " + index + ")", duel.nameByte(1, index), "corner".charAt(index));
        }
        for (int bad : new int[] {-1, 6, Integer.MIN_VALUE, Integer.MAX_VALUE}) {
            Check.due("nameByte(1, " + bad + ")", duel.nameByte(1, bad), TrunkDuel.NONE);
        }
        for (int bad : BAD) {
            Check.outOfBounds("nameByte of player " + bad, () -> duel.nameByte(bad, 0));
            Check.outOfBounds("the player before the index " + bad, () -> duel.nameByte(bad, -1));
        }
        duel.undo();
        Check.due("nameByte(0, 2) after undo()", duel.nameByte(0, 2), 'n');
        Check.due("nameByte(1, 3) after undo()", duel.nameByte(1, 3), TrunkDuel.NONE);
    }
}
