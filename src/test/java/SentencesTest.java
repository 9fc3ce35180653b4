import java.util.ArrayList;
import java.util.List;
import java.util.TreeSet;

/** The sentences of the document that no other test names, in the document's order. */
public final class SentencesTest {
    private static final String BOTH = "player a 1 1 1 1 1 1;player b 1 1 1 1 1 1;";
    private static final int[] CELLS = {2, 3, 3, 4, 4};

    public static void main(String[] args) {
        callsOfOneObject();
        textsOfOneObject();
        noPieceOverAStrap();
        edgesCarryAStrapOrNot();
        shapes();
        rotations();
        combinations();
        oneOfThreeThings();
        pointsOfCells();
        completeRows();
        winner();
        setupsAndScripts();
        alternatives();
        commandsOfASetup();
        exceptionsChangeNothing();
        theSupplyOfTheMover();
        pointsForAnyPlayer();
        pointsWhenPlaced();
        Check.finish("SentencesTest");
    }

    /** The signs of the trunk, its rows with a stroke between them. */
    private static String picture(TrunkDuel duel) {
        StringBuilder signs = new StringBuilder();
        int length = duel.writeTrunk();
        for (int index = 0; index < length; index++) {
            int sign = duel.outputByte(index);
            signs.append(sign == 10 ? '/' : (char) sign);
        }
        return signs.toString();
    }

    // ---- What it is

    private static void callsOfOneObject() {
        Check.sentence("What it is", "An object is used for at most 512 calls after it has been made");
        TrunkDuel duel = new TrunkDuel();
        TrunkDuel fresh = new TrunkDuel();
        fresh.place(3, 0, 0, 0);
        int mobility = fresh.mobility(0);
        int effect = fresh.bestStrapEffect();
        for (int round = 0; round < 51; round++) {
            Check.due("place() of round " + round, duel.place(3, 0, 0, 0), 4);
            Check.badState("the same place()", () -> duel.place(3, 0, 0, 0));
            Check.due("save()", duel.save(round % 2), 1);
            Check.due("mobility(0)", duel.mobility(0), mobility);
            Check.due("bestStrapEffect()", duel.bestStrapEffect(), effect);
            Check.due("deadCells()", duel.deadCells(), 0);
            Check.due("writeTrunk()", duel.writeTrunk(), 23);
            Check.due("restore()", duel.restore(round % 2), 1);
            Check.due("undo()", duel.undo(), 1);
            Check.due("undo()", duel.undo(), 0);
        }
        Check.due("call 511", duel.emptyCells(), 18);
        Check.due("call 512", duel.outputByte(0), 'a');
    }

    private static void textsOfOneObject() {
        Check.sentence("What it is", "An object is used for at most 512 calls after it has been made");
        TrunkDuel duel = new TrunkDuel();
        String setup = "trunk 8 8;" + Bounds.RICH;
        String script = "place square 0 0 0;place rod 1 7 5;";
        for (int round = 0; round < 6; round++) {
            // Twelve texts of 33 calls each.
            Check.due("load() of round " + round, Check.load(duel, padded(setup)), 64);
            Check.due("play() of round " + round, Check.play(duel, padded(script)), 2);
        }
        Check.due("undoableChanges()", duel.undoableChanges(), 8);
        Check.due("emptyCells()", duel.emptyCells(), 57);
        for (int left = 7; left >= 0; left--) {
            Check.due("undo()", duel.undo(), left);
            Check.due("emptyCells()", duel.emptyCells(), left % 2 == 0 ? 57 : 64);
        }
    }

    private static String padded(String text) {
        return " ".repeat(600 - text.length()) + text;
    }

    // ---- Terms

    private static void noPieceOverAStrap() {
        Check.sentence("Terms", "A strap lies on the edge between two cells, and no piece may cover both cells of"
                + " that edge.");
        for (int edge = 0; edge < 50; edge++) {
            int column = edge / 2 % 5;
            int row = edge / 10;
            int side = edge % 2;
            if (side == 0 ? column < 4 : row < 4) {
                for (int placement = 0; placement < 20; placement++) {
                    placeBesideAStrap(column, row, side, placement / 4, placement % 4);
                }
            }
        }
    }

    private static void placeBesideAStrap(int column, int row, int side, int shape, int rotation) {
        int beyondColumn = column + 1 - side;
        int beyondRow = row + side;
        String call = "place " + shape + " " + rotation + " with a strap at " + column + " " + row + " " + side;
        TrunkDuel free = Bounds.with("trunk 5 5;", BOTH);
        free.place(shape, rotation, 2, 2);
        boolean across = free.pieceAt(column, row) == 0 && free.pieceAt(beyondColumn, beyondRow) == 0;
        TrunkDuel bound = Bounds.with("trunk 5 5;", BOTH);
        bound.fastenStrap(column, row, side);
        if (across) {
            Check.badState(call, () -> bound.place(shape, rotation, 2, 2));
            Check.due("pieceCount() behind " + call, bound.pieceCount(), 0);
            Check.badState("the strap behind the piece", () -> free.fastenStrap(column, row, side));
        } else {
            bound.place(shape, rotation, 2, 2);
            Check.due(call, picture(bound), picture(free));
            Check.due("the strap behind the piece", free.fastenStrap(column, row, side), 0);
        }
    }

    private static void edgesCarryAStrapOrNot() {
        Check.sentence("Terms 1", "An edge carries a strap or not.");
        for (String one : edgesOf(4, 3)) {
            TrunkDuel duel = Bounds.with("trunk 4 3;", BOTH);
            Check.due("straps before", strapsOf(duel), "[]");
            Check.due("play of a strap at " + one, Check.play(duel, "strap " + one + ";"), 1);
            Check.due("straps with one at " + one, strapsOf(duel), "[" + one + "]");
            Check.due("strapCount()", duel.strapCount(), 1);
            Check.due("play of it once more", Check.play(duel, "strap " + one + ";"), Bounds.NONE);
            Check.due("errorCode()", duel.errorCode(), 6);
            Check.due("strapCount()", duel.strapCount(), 1);
        }
    }

    private static List<String> edgesOf(int columns, int rows) {
        List<String> edges = new ArrayList<>();
        for (int row = 0; row < rows; row++) {
            for (int column = 0; column < columns; column++) {
                if (column < columns - 1) {
                    edges.add(column + " " + row + " right");
                }
                if (row < rows - 1) {
                    edges.add(column + " " + row + " below");
                }
            }
        }
        return edges;
    }

    private static String strapsOf(TrunkDuel duel) {
        List<String> found = new ArrayList<>();
        for (String edge : edgesOf(duel.columns(), duel.rows())) {
            String[] parts = edge.split(" ");
            int side = parts[2].equals("right") ? TrunkDuel.RIGHT : TrunkDuel.BELOW;
            if (duel.hasStrap(Integer.parseInt(parts[0]), Integer.parseInt(parts[1]), side)) {
                found.add(edge);
            }
        }
        return found.toString();
    }

    private static void shapes() {
        Check.sentence("Terms 2", "With rotation 0 and the anchor cell (x, y), the shapes cover these cells");
        int[] numbers = {TrunkDuel.BAR, TrunkDuel.ELBOW, TrunkDuel.ROD, TrunkDuel.SQUARE, TrunkDuel.CORNER};
        String[] words = {"bar", "elbow", "rod", "square", "corner"};
        String[] due = {"aa./.../...", "aa./a../...", "aaa/.../...", "aa./aa./...", "aaa/a../..."};
        for (int shape = 0; shape < 5; shape++) {
            TrunkDuel placed = Bounds.with("trunk 3 3;", BOTH);
            placed.place(numbers[shape], 0, 0, 0);
            Check.due("place of " + words[shape], picture(placed), due[shape]);
            TrunkDuel played = Bounds.with("trunk 3 3;", BOTH);
            Check.play(played, "place " + words[shape] + " 0 0 0;");
            Check.due("play of " + words[shape], picture(played), due[shape]);
            Check.due("pieceShape(0)", played.pieceShape(0), numbers[shape]);
        }
    }

    private static void rotations() {
        Check.sentence("Terms 2", "Each rotation by one step turns every offset (dx, dy) from the anchor cell into"
                + " (-dy, dx). The anchor cell does not move.");
        for (int shape = 0; shape < 5; shape++) {
            for (int rotation = 0; rotation < 4; rotation++) {
                String call = "shape " + shape + " rotation " + rotation;
                Check.due(call, offsets(shape, (rotation + 1) % 4, false), offsets(shape, rotation, true));
                Check.due("the anchor of " + call, offsets(shape, rotation, false).contains("(0 0)"), true);
            }
        }
    }

    /** The offsets of the cells that a piece covers, as they are or turned by one step. */
    private static String offsets(int shape, int rotation, boolean turned) {
        TrunkDuel duel = Bounds.with("trunk 5 5;", BOTH);
        duel.place(shape, rotation, 2, 2);
        TreeSet<String> offsets = new TreeSet<>();
        for (int down = -2; down <= 2; down++) {
            for (int right = -2; right <= 2; right++) {
                if (duel.pieceAt(2 + right, 2 + down) == 0) {
                    offsets.add(turned ? "(" + -down + " " + right + ")" : "(" + right + " " + down + ")");
                }
            }
        }
        return offsets.toString();
    }

    private static void combinations() {
        Check.sentence("Terms 2", "A placement is a combination of a shape, a rotation and an anchor cell.");
        int[][] anchors = {{0, 0}, {1, 0}, {1, 1}, {0, 1}};
        for (int rotation = 0; rotation < 4; rotation++) {
            TrunkDuel duel = Bounds.with("trunk 3 3;", BOTH);
            duel.place(TrunkDuel.SQUARE, rotation, anchors[rotation][0], anchors[rotation][1]);
            Check.due("the cells of rotation " + rotation, picture(duel), "aa./aa./...");
            Check.due("pieceRotation(0)", duel.pieceRotation(0), rotation);
            Check.due("pieceColumn(0)", duel.pieceColumn(0), anchors[rotation][0]);
            Check.due("pieceRow(0)", duel.pieceRow(0), anchors[rotation][1]);
        }
        for (int shape = 0; shape < 5; shape++) {
            TrunkDuel duel = Bounds.busy();
            int fitting = 0;
            for (int rest = 0; rest < 80; rest++) {
                fitting += duel.fits(shape, rest % 4, rest / 4 % 5, rest / 20) ? 1 : 0;
            }
            Check.due("fittingPlacements(" + shape + ")", duel.fittingPlacements(shape), fitting);
        }
    }

    private static void oneOfThreeThings() {
        Check.sentence("Terms 3", "In a turn the player to move does one of three things.");
        TrunkDuel duel = Bounds.with("trunk 3 3;", "player a 1 0 0 0 0 1;player b 1 0 0 0 0 1;");
        duel.place(0, 0, 0, 0);
        Check.due("behind a piece of player 0", duel.playerToMove(), 1);
        Check.badState("a piece across the border", () -> duel.place(0, 0, 2, 0));
        Check.badState("a strap within a piece", () -> duel.fastenStrap(0, 0, 0));
        Check.badState("a pass where a piece fits", duel::pass);
        Check.due("behind what is refused", duel.playerToMove(), 1);
        duel.fastenStrap(0, 1, 0);
        Check.due("behind a strap of player 1", duel.playerToMove(), 0);
        duel.pass();
        Check.due("behind a pass of player 0", duel.playerToMove(), 1);
        duel.place(0, 0, 0, 2);
        Check.due("behind a piece of player 1", duel.playerToMove(), 0);
        duel.fastenStrap(1, 1, 0);
        Check.due("behind a strap of player 0", duel.playerToMove(), 1);
        duel.pass();
        Check.due("behind a pass of player 1", duel.playerToMove(), 0);
        Check.due("isOver()", duel.isOver(), false);
    }

    private static void pointsOfCells() {
        Check.sentence("Terms 3", "A placement scores one point for each covered cell.");
        for (int shape = 0; shape < 5; shape++) {
            for (int rotation = 0; rotation < 4; rotation++) {
                String arguments = "(" + shape + ", " + rotation + ", 3, 4)";
                TrunkDuel duel = Bounds.with("trunk 8 8;", BOTH);
                Check.due("pointsFor" + arguments, duel.pointsFor(shape, rotation, 3, 4), CELLS[shape]);
                Check.due("place" + arguments, duel.place(shape, rotation, 3, 4), CELLS[shape]);
                Check.due("emptyCells()", duel.emptyCells(), 64 - CELLS[shape]);
                Check.due("score(0)", duel.score(0), CELLS[shape]);
                Check.due("score(1)", duel.score(1), 0);
            }
        }
    }

    private static void completeRows() {
        Check.sentence("Terms 3", "A row is complete if none of its cells is empty.");
        String[][] rows = {
            {"", "", "3"},
            {"block 0 0;", "", "2"},
            {"block 0 0;block 2 0;", "", "1"},
            {"block 0 0;block 1 0;block 2 0;", "", "0"},
            {"", "place bar 0 0 0;", "1"},
            {"", "place rod 0 0 0;", "0"},
            {"block 2 0;", "place bar 0 0 0;", "0"},
            {"block 0 0;", "place bar 1 2 0;", "1"},
            {"block 0 0;block 1 0;", "place bar 1 2 0;", "0"},
            {"", "place bar 0 0 0;place bar 1 2 0;", "0"}};
        for (String[] row : rows) {
            TrunkDuel duel = Check.loaded("trunk 3 4;" + row[0] + Bounds.RICH + row[1]);
            int empty = Integer.parseInt(row[2]);
            Check.due("emptyInRow(0) of " + row[0] + row[1], duel.emptyInRow(0), empty);
            Check.due("completeRows() of " + row[0] + row[1], duel.completeRows(), empty == 0 ? 1 : 0);
        }
    }

    private static void winner() {
        Check.sentence("Terms 3", "The winner is the player with the higher score.");
        String[] players = {
            "player a 1 0 0 0 0 0;player b 0 0 0 0 0 0;place bar 0 0 0;",
            "player a 0 0 0 0 0 0;player b 1 0 0 0 0 0;pass;place bar 0 0 0;",
            "player a 1 0 0 0 0 0;player b 0 1 0 0 0 0;place bar 0 0 0;place elbow 0 0 1;",
            "player a 1 0 0 0 0 0;player b 1 0 0 0 0 0;place bar 0 0 0;place bar 0 0 1;",
            "player a 0 0 0 0 0 0;player b 0 0 0 0 0 0;"};
        int[] due = {0, 1, 1, Bounds.NONE, Bounds.NONE};
        for (int game = 0; game < players.length; game++) {
            TrunkDuel duel = Bounds.with("trunk 4 4;", players[game]);
            Check.due("leader() in " + players[game], duel.leader(), due[game]);
            Check.due("pass()", duel.pass(), 1);
            Check.due("pass()", duel.pass(), 2);
            Check.due("isOver()", duel.isOver(), true);
            Check.due("leader() at the end of " + players[game], duel.leader(), due[game]);
        }
    }

    private static void setupsAndScripts() {
        Check.sentence("Terms 5", "load() parses it as a setup, play() parses it as a script.");
        String setup = "trunk 3 3;" + BOTH;
        Check.failsToPlay(new TrunkDuel(), setup, 1, 0);
        for (String script : new String[] {"place bar 0 0 0;", "strap 0 0 right;", "pass;"}) {
            Check.failsToLoad(script, 1, 0);
        }
        TrunkDuel duel = new TrunkDuel();
        Check.due("load of the setup", Check.load(duel, setup), 9);
        Check.due("play of a script", Check.play(duel, "place bar 0 0 0;strap 0 1 right;"), 2);
        Check.due("columns()", duel.columns(), 3);
        Check.due("load of the empty text", Check.load(duel, ""), Bounds.NONE);
        Check.due("play of the empty text", Check.play(duel, ""), 0);
    }

    private static void alternatives() {
        Check.sentence("Terms 5", "A vertical bar separates alternatives.");
        String[] words = {"bar", "elbow", "rod", "square", "corner", "right", "below", "place", "strap", "pass",
            "trunk", "block", "player", "edge", "shape", "left", "above", "name"};
        for (int index = 0; index < words.length; index++) {
            String shape = "place " + words[index] + " 0 0 0;";
            String side = "strap 0 0 " + words[index] + ";";
            String command = words[index] + ";";
            alternative(shape, index < 5, 6);
            alternative(side, index == 5 || index == 6, 10);
            alternative(command, words[index].equals("pass"), commandEnds(words[index]));
        }
    }

    /** Where a text of one word goes wrong: behind the word, if it begins a command. */
    private static int commandEnds(String word) {
        return word.equals("place") || word.equals("strap") ? word.length() : 0;
    }

    private static void alternative(String text, boolean stands, int offset) {
        String players = text.equals("pass;") ? Bounds.POOR : BOTH;
        TrunkDuel duel = Bounds.with("trunk 3 3;", players);
        if (stands) {
            Check.due("play of " + text, Check.play(duel, text), 1);
            Check.due("load with " + text, Check.load(duel, "trunk 3 3;" + players + text) > 0, true);
        } else {
            Check.failsToPlay(duel, text, 1, offset);
            String before = "trunk 3 3;" + players;
            Check.failsToLoad(before + text, 1, before.length() + offset);
        }
    }

    /** The reading that NOTES.md tells: codes 4 and 5 are for the edges before the first player. */
    private static void commandsOfASetup() {
        Check.sentence("Terms 5", "Code 6, not possible: the last token of a command, if the method would throw an"
                + " IllegalStateException.");
        String free = "trunk 3 3;block 2 2;strap 0 0 right;";
        Check.failsToLoad(free + "strap 0 0 right;" + BOTH, 4, free.length() + 10);
        Check.failsToLoad(free + "strap 1 2 right;" + BOTH, 5, free.length() + 10);
        String behind = free + BOTH;
        Check.failsToLoad(behind + "strap 0 0 right;", 6, behind.length() + 10);
        Check.failsToLoad(behind + "strap 1 2 right;", 6, behind.length() + 10);
        Check.failsToLoad(behind + "strap 2 1 below;", 6, behind.length() + 10);
        String played = behind + "strap 1 0 below;";
        Check.failsToLoad(played + "strap 1 0 below;", 6, played.length() + 10);
    }

    private static void exceptionsChangeNothing() {
        Check.sentence("Terms 6", "A method that throws an exception changes nothing.");
        TrunkDuel duel = Bounds.busy();
        refusedInputAndChanges(duel);
        refusedCells(duel);
        refusedPieces(duel);
        refusedPlayers(duel);
        refusedPlacements(duel);
        Check.due("all behind them", Bounds.everything(duel), Bounds.everything(Bounds.busy()));
    }

    private static void refusedInputAndChanges(TrunkDuel duel) {
        Check.badArgument("truncateInput", () -> duel.truncateInput(19));
        Check.badArgument("place", () -> duel.place(5, 0, 0, 0));
        Check.outOfBounds("place", () -> duel.place(0, 0, 5, 0));
        Check.badState("place", () -> duel.place(0, 0, 0, 0));
        Check.badArgument("fastenStrap", () -> duel.fastenStrap(0, 2, 2));
        Check.outOfBounds("fastenStrap", () -> duel.fastenStrap(4, 2, 0));
        Check.badState("fastenStrap", () -> duel.fastenStrap(1, 3, 0));
        Check.badState("pass", duel::pass);
        Check.badState("undo of nothing", () -> new TrunkDuel().undo());
        Check.badArgument("save", () -> duel.save(2));
        Check.badArgument("restore", () -> duel.restore(-1));
        Check.badState("restore", () -> duel.restore(1));
    }

    private static void refusedCells(TrunkDuel duel) {
        Check.outOfBounds("isBlocked", () -> duel.isBlocked(5, 0));
        Check.outOfBounds("pieceAt", () -> duel.pieceAt(0, 4));
        Check.badArgument("hasStrap", () -> duel.hasStrap(0, 0, -1));
        Check.outOfBounds("hasStrap", () -> duel.hasStrap(0, 3, 1));
        Check.outOfBounds("emptyInRow", () -> duel.emptyInRow(4));
        Check.outOfBounds("regionSize", () -> duel.regionSize(-1, 0));
        Check.outOfBounds("isDead", () -> duel.isDead(0, -1));
    }

    private static void refusedPieces(TrunkDuel duel) {
        int none = duel.pieceCount();
        Check.outOfBounds("pieceShape", () -> duel.pieceShape(none));
        Check.outOfBounds("pieceRotation", () -> duel.pieceRotation(none));
        Check.outOfBounds("pieceColumn", () -> duel.pieceColumn(none));
        Check.outOfBounds("pieceRow", () -> duel.pieceRow(none));
        Check.outOfBounds("pieceOwner", () -> duel.pieceOwner(none));
        Check.outOfBounds("piecePoints", () -> duel.piecePoints(none));
    }

    private static void refusedPlayers(TrunkDuel duel) {
        Check.outOfBounds("score", () -> duel.score(2));
        Check.outOfBounds("supply", () -> duel.supply(2, 5));
        Check.badArgument("supply", () -> duel.supply(0, 5));
        Check.outOfBounds("strapsLeft", () -> duel.strapsLeft(-1));
        Check.outOfBounds("nameByte", () -> duel.nameByte(2, 0));
    }

    private static void refusedPlacements(TrunkDuel duel) {
        Check.badArgument("fits", () -> duel.fits(0, 4, 0, 0));
        Check.outOfBounds("fits", () -> duel.fits(0, 0, 0, 4));
        Check.badArgument("misfitReason", () -> duel.misfitReason(0, -1, 0, 0));
        Check.outOfBounds("misfitReason", () -> duel.misfitReason(0, 0, -1, 0));
        Check.badArgument("pointsFor", () -> duel.pointsFor(-1, 0, 0, 0));
        Check.outOfBounds("pointsFor", () -> duel.pointsFor(0, 0, 0, -1));
        Check.outOfBounds("mobility", () -> duel.mobility(2));
        Check.badArgument("fittingPlacements", () -> duel.fittingPlacements(5));
        Check.badArgument("mobilityAfter", () -> duel.mobilityAfter(5, 0, 0, 0, 2));
        Check.outOfBounds("mobilityAfter", () -> duel.mobilityAfter(0, 0, 0, 0, 2));
    }

    // ---- Promises

    private static void theSupplyOfTheMover() {
        Check.sentence("8, 9", "Places a piece of the player to move. Fastens a strap of the player to move.");
        TrunkDuel duel = Bounds.with("trunk 8 8;", "player a 5 5 5 5 5 5;player b 7 7 7 7 7 7;");
        int[][] due = {{5, 5, 5, 5, 5, 5}, {7, 7, 7, 7, 7, 7}};
        int[][] anchors = {{0, 0}, {2, 0}, {4, 0}, {0, 2}, {2, 2}};
        for (int turn = 0; turn < 6; turn++) {
            int mover = turn % 2;
            Check.due("playerToMove()", duel.playerToMove(), mover);
            due[mover][turn]--;
            if (turn < 5) {
                duel.place(turn, 0, anchors[turn][0], anchors[turn][1]);
                Check.due("pieceOwner(" + turn + ")", duel.pieceOwner(turn), mover);
            } else {
                Check.due("fastenStrap()", duel.fastenStrap(7, 6, 1), due[mover][5]);
            }
            for (int player = 0; player < 2; player++) {
                for (int shape = 0; shape < 5; shape++) {
                    Check.due("supply(" + player + ", " + shape + ")", duel.supply(player, shape), due[player][shape]);
                }
                Check.due("strapsLeft(" + player + ")", duel.strapsLeft(player), due[player][5]);
            }
        }
    }

    private static void pointsForAnyPlayer() {
        Check.sentence("40", "Returns the points that a placement would score now, for any player.");
        String wall = "trunk 4 4;block 2 0;block 3 0;block 3 1;";
        TrunkDuel first = Bounds.with(wall, "player a 9 9 9 9 9 1;player b 0 0 0 0 0 0;");
        TrunkDuel second = Bounds.with(wall, "player a 0 0 0 0 0 0;player b 9 9 9 9 9 1;pass;");
        TrunkDuel poor = Bounds.with(wall, Bounds.POOR);
        for (int placement = 0; placement < 320; placement++) {
            int shape = placement / 64;
            int rotation = placement / 16 % 4;
            int column = placement % 4;
            int row = placement / 4 % 4;
            String arguments = "(" + shape + ", " + rotation + ", " + column + ", " + row + ")";
            int points = first.pointsFor(shape, rotation, column, row);
            Check.due("pointsFor" + arguments + " of player 1", second.pointsFor(shape, rotation, column, row), points);
            Check.due("pointsFor" + arguments + " of no supply", poor.pointsFor(shape, rotation, column, row), points);
            if (points != Bounds.NONE) {
                Check.due("place" + arguments + " of player 0", first.place(shape, rotation, column, row), points);
                Check.due("place" + arguments + " of player 1", second.place(shape, rotation, column, row), points);
                first.undo();
                second.undo();
            }
        }
    }

    private static void pointsWhenPlaced() {
        Check.sentence("30", "Returns the points that a piece scored when it was placed.");
        TrunkDuel duel = Bounds.with("trunk 3 3;", Bounds.RICH);
        duel.place(0, 0, 0, 0);
        Check.due("piecePoints(0)", duel.piecePoints(0), 2);
        duel.place(0, 1, 2, 0);
        Check.due("piecePoints(1) of the piece that completes the row", duel.piecePoints(1), 5);
        Check.due("piecePoints(0) behind it", duel.piecePoints(0), 2);
        duel.fastenStrap(0, 1, 0);
        duel.save(0);
        duel.place(0, 1, 1, 1);
        Check.due("piecePoints(2)", duel.piecePoints(2), 2);
        duel.restore(0);
        Check.due("piecePoints(1) restored", duel.piecePoints(1), 5);
        duel.undo();
        Check.due("piecePoints(2) undone", duel.piecePoints(2), 2);
        Check.due("piecePoints(0) at last", duel.piecePoints(0), 2);
    }
}
