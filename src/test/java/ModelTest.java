import java.util.List;
import java.util.Set;
import java.util.function.IntSupplier;

/**
 * Runs of calls, made by a fixed rule out of numbers, on TrunkDuel and on Model. Their answers,
 * results and exceptions must be the same. The first argument may say how many runs.
 */
public final class ModelTest {
    private static final int CALLS = 512;
    private static final String[] NAMES = {"a", "bob", "player", "strap", "abcdef", "b", "zz"};
    private static final String[] SHAPES = {"bar", "elbow", "rod", "square", "corner"};

    private long seed;
    private int calls;
    private TrunkDuel duel;
    private Model model;

    public static void main(String[] args) {
        int runs = args.length > 0 ? Integer.parseInt(args[0]) : 250;
        for (int run = 0; run < runs; run++) {
            new ModelTest().run(run);
        }
        Check.finish("ModelTest");
    }

    private int random(int bound) {
        seed = seed * 6364136223846793005L + 1442695040888963407L;
        return (int) ((seed >>> 33) % bound);
    }

    private void run(int number) {
        seed = number * 7919L + 17;
        random(9);
        duel = new TrunkDuel();
        model = new Model();
        calls = 0;
        while (calls < CALLS - 40) {
            change();
            for (int asked = random(8); asked > 0; asked--) {
                query();
            }
        }
    }

    /** The answer of a call, or a number below all answers for each exception. */
    private static long outcome(IntSupplier call) {
        try {
            return call.getAsInt();
        } catch (RuntimeException e) {
            if (e.getClass() == IllegalArgumentException.class) {
                return -1001;
            }
            if (e.getClass() == IndexOutOfBoundsException.class) {
                return -1002;
            }
            return e.getClass() == IllegalStateException.class ? -1003 : -1004;
        }
    }

    private void same(String call, IntSupplier got, IntSupplier want) {
        calls++;
        Check.due(call, outcome(got), outcome(want));
    }

    private int near(int bound) {
        return random(12) == 0 ? random(bound + 5) - 2 : random(bound);
    }

    private static void argument(boolean holds) {
        if (!holds) {
            throw new IllegalArgumentException();
        }
    }

    private static void bounds(boolean holds) {
        if (!holds) {
            throw new IndexOutOfBoundsException();
        }
    }

    private static void state(boolean holds) {
        if (!holds) {
            throw new IllegalStateException();
        }
    }

    // ---- changes

    private void change() {
        int kind = random(40);
        if (kind < 14) {
            placeSomething();
        } else if (kind < 18) {
            fasten(near(model.now.columns), near(model.now.rows), near(2));
        } else if (kind < 22) {
            same("pass()", duel::pass, () -> {
                state(model.now.mayPass());
                Model.Position next = model.now.copy();
                int passes = next.pass();
                model.change(next);
                return passes;
            });
        } else if (kind < 26) {
            same("undo()", duel::undo, () -> {
                state(!model.past.isEmpty());
                model.now = model.past.removeLast();
                return model.past.size();
            });
        } else if (kind < 29) {
            saveOrRestore();
        } else if (kind < 34) {
            text(setup(), true);
        } else {
            text(commands(random(5)), false);
        }
    }

    private void placeSomething() {
        List<int[]> moves = model.now.moves(model.now.toMove);
        if (!moves.isEmpty() && random(4) > 0) {
            int[] move = moves.get(random(moves.size()));
            place(move[0], move[1], move[2], move[3]);
        } else {
            place(near(5), near(4), near(model.now.columns), near(model.now.rows));
        }
    }

    private void place(int shape, int rotation, int column, int row) {
        String arguments = "(" + shape + ", " + rotation + ", " + column + ", " + row + ")";
        same("place" + arguments, () -> duel.place(shape, rotation, column, row), () -> {
            argument(shape >= 0 && shape < 5 && rotation >= 0 && rotation < 4);
            bounds(model.now.inside(column, row));
            state(model.now.mayPlace(shape, rotation, column, row));
            Model.Position next = model.now.copy();
            int points = next.place(shape, rotation, column, row);
            model.change(next);
            return points;
        });
    }

    private void fasten(int column, int row, int side) {
        String arguments = "(" + column + ", " + row + ", " + side + ")";
        same("fastenStrap" + arguments, () -> duel.fastenStrap(column, row, side), () -> {
            argument(side == 0 || side == 1);
            bounds(model.now.edgeInside(column, row, side));
            state(model.now.mayFasten(column, row, side));
            Model.Position next = model.now.copy();
            int left = next.fasten(column, row, side);
            model.change(next);
            return left;
        });
    }

    private void saveOrRestore() {
        int slot = near(2);
        if (random(2) == 0) {
            same("save(" + slot + ")", () -> duel.save(slot), () -> {
                argument(slot == 0 || slot == 1);
                model.saved[slot] = model.now.copy();
                return model.now.pieces.size();
            });
        } else {
            same("restore(" + slot + ")", () -> duel.restore(slot), () -> {
                argument(slot == 0 || slot == 1);
                state(model.saved[slot] != null);
                model.change(model.saved[slot].copy());
                return model.now.pieces.size();
            });
        }
    }

    // ---- texts

    private void text(String good, boolean isSetup) {
        String text = random(3) == 0 ? spoilt(good) : good;
        text = text.substring(0, Math.min(text.length(), 600));
        Check.write(duel, 0, text);
        calls += (text.length() + 19) / 20 + 1;
        model.input = text;
        String call = (isSetup ? "load of " : "play of ") + text;
        same(call, isSetup ? duel::load : duel::play, isSetup ? model::load : model::play);
        same("errorCode of " + text, duel::errorCode, () -> model.errorCode);
        same("errorOffset of " + text, duel::errorOffset, () -> model.errorOffset);
    }

    private String spoilt(String text) {
        if (text.isEmpty()) {
            return text;
        }
        int place = random(text.length());
        String start = text.substring(0, place);
        String rest = text.substring(place);
        String signs = "abz019; ;/:`{A\u00ff\u0000";
        return switch (random(3)) {
            case 0 -> start;
            case 1 -> start + signs.charAt(random(signs.length())) + rest;
            default -> start + rest.substring(1);
        };
    }

    /** Mostly in bounds: a setup has many numbers, and one wrong one spoils it. */
    private int close(int bound) {
        return random(50) == 0 ? random(bound + 5) - 2 : random(bound);
    }

    private String setup() {
        int columns = 3 + close(random(2) == 0 ? 2 : 6);
        int rows = 3 + close(random(2) == 0 ? 2 : 6);
        StringBuilder text = new StringBuilder("trunk " + columns + " " + rows + ";");
        for (int left = random(4) * random(3); left > 0; left--) {
            text.append("block ").append(close(columns)).append(' ').append(close(rows)).append(';');
        }
        for (int left = random(3); left > 0; left--) {
            text.append(edge(columns, rows)).append(';');
        }
        int name = random(NAMES.length);
        for (int player = 0; player < 2; player++) {
            text.append("player ").append(random(30) == 0 ? "abcdefg" : NAMES[name]);
            name = (name + random(6)) % NAMES.length;
            int most = 1 + random(9);
            for (int number = 0; number < 6; number++) {
                text.append(' ').append(close(most));
            }
            text.append(';');
        }
        return random(2) == 0 ? text.toString() : text + commands(random(3));
    }

    private String edge(int columns, int rows) {
        return "strap " + close(columns) + " " + close(rows) + (random(2) == 0 ? " right" : " below");
    }

    private String commands(int count) {
        StringBuilder text = new StringBuilder();
        Model.Position guess = model.now.copy();
        for (int left = count; left > 0; left--) {
            List<int[]> moves = guess.moves(guess.toMove);
            if (moves.isEmpty()) {
                text.append("pass;");
                guess.pass();
            } else if (random(5) == 0) {
                text.append(edge(guess.columns, guess.rows)).append(';');
                guess.toMove = 1 - guess.toMove;
            } else {
                int[] move = moves.get(random(moves.size()));
                text.append("place ").append(SHAPES[move[0]]).append(' ').append(move[1]).append(' ')
                        .append(move[2]).append(' ').append(move[3]).append(';');
                guess.place(move[0], move[1], move[2], move[3]);
            }
        }
        return text.toString();
    }

    // ---- queries

    private void query() {
        Model.Position now = model.now;
        int column = near(now.columns);
        int row = near(now.rows);
        int shape = near(5);
        int rotation = near(4);
        int player = near(2);
        int piece = near(now.pieces.size() + 1);
        switch (random(8)) {
            case 0 -> queryCell(column, row, near(2));
            case 1 -> queryPiece(piece);
            case 2 -> queryPlayer(player, shape);
            case 3, 4 -> queryPlacement(shape, rotation, column, row, player);
            case 5 -> queryBest();
            case 6 -> queryRegions(column, row);
            default -> queryWhole();
        }
    }

    private void queryCell(int column, int row, int side) {
        Model.Position now = model.now;
        String cell = "(" + column + ", " + row + ")";
        same("isBlocked" + cell, () -> duel.isBlocked(column, row) ? 1 : 0, () -> {
            bounds(now.inside(column, row));
            return now.blockedAt(column, row) ? 1 : 0;
        });
        same("pieceAt" + cell, () -> duel.pieceAt(column, row), () -> {
            bounds(now.inside(column, row));
            return now.pieceAt(column, row);
        });
        same("hasStrap" + cell + side, () -> duel.hasStrap(column, row, side) ? 1 : 0, () -> {
            argument(side == 0 || side == 1);
            bounds(now.edgeInside(column, row, side));
            return now.straps.contains(List.of(column, row, side)) ? 1 : 0;
        });
        same("emptyInRow" + row, () -> duel.emptyInRow(row), () -> {
            bounds(row >= 0 && row < now.rows);
            return now.emptyIn(row);
        });
    }

    private void queryPiece(int piece) {
        List<int[]> pieces = model.now.pieces;
        IntSupplier[] got = {
            () -> duel.pieceShape(piece), () -> duel.pieceRotation(piece), () -> duel.pieceColumn(piece),
            () -> duel.pieceRow(piece), () -> duel.pieceOwner(piece), () -> duel.piecePoints(piece)};
        for (int field = 0; field < got.length; field++) {
            int wanted = field;
            same("number " + field + " of piece " + piece, got[field], () -> {
                bounds(piece >= 0 && piece < pieces.size());
                return pieces.get(piece)[wanted];
            });
        }
    }

    private void queryPlayer(int player, int shape) {
        Model.Position now = model.now;
        int index = near(6);
        same("score " + player, () -> duel.score(player), () -> {
            bounds(player == 0 || player == 1);
            return now.score[player];
        });
        same("supply " + player + " " + shape, () -> duel.supply(player, shape), () -> {
            bounds(player == 0 || player == 1);
            argument(shape >= 0 && shape < 5);
            return now.supply[player][shape];
        });
        same("strapsLeft " + player, () -> duel.strapsLeft(player), () -> {
            bounds(player == 0 || player == 1);
            return now.strapsLeft[player];
        });
        same("nameByte " + player + " " + index, () -> duel.nameByte(player, index), () -> {
            bounds(player == 0 || player == 1);
            String name = now.names[player];
            return index >= 0 && index < name.length() ? name.charAt(index) : -1;
        });
        same("mobility " + player, () -> duel.mobility(player), () -> {
            bounds(player == 0 || player == 1);
            return now.moves(player).size();
        });
        same("leader()", duel::leader, () -> now.score[0] == now.score[1] ? -1
                : now.score[0] > now.score[1] ? 0 : 1);
        same("playerToMove()", duel::playerToMove, () -> now.over() ? -1 : now.toMove);
        same("isOver()", () -> duel.isOver() ? 1 : 0, () -> now.over() ? 1 : 0);
    }

    private void queryPlacement(int shape, int rotation, int column, int row, int player) {
        Model.Position now = model.now;
        String arguments = "(" + shape + ", " + rotation + ", " + column + ", " + row + ")";
        Runnable proper = () -> {
            argument(shape >= 0 && shape < 5 && rotation >= 0 && rotation < 4);
            bounds(now.inside(column, row));
        };
        same("fits" + arguments, () -> duel.fits(shape, rotation, column, row) ? 1 : 0, () -> {
            proper.run();
            return now.misfit(shape, rotation, column, row) == 0 ? 1 : 0;
        });
        same("misfitReason" + arguments, () -> duel.misfitReason(shape, rotation, column, row), () -> {
            proper.run();
            return now.misfit(shape, rotation, column, row);
        });
        same("pointsFor" + arguments, () -> duel.pointsFor(shape, rotation, column, row), () -> {
            proper.run();
            return now.points(shape, rotation, column, row);
        });
        same("mobilityAfter" + arguments + player,
                () -> duel.mobilityAfter(shape, rotation, column, row, player), () -> {
                    proper.run();
                    bounds(player == 0 || player == 1);
                    if (!now.mayPlace(shape, rotation, column, row)) {
                        return -1;
                    }
                    Model.Position after = now.copy();
                    after.place(shape, rotation, column, row);
                    return after.moves(player).size();
                });
        same("fittingPlacements " + shape, () -> duel.fittingPlacements(shape), () -> {
            argument(shape >= 0 && shape < 5);
            return now.fitting(shape).size();
        });
    }

    private void queryBest() {
        int[] best = model.now.best();
        IntSupplier[] got = {duel::bestShape, duel::bestRotation, duel::bestColumn, duel::bestRow};
        for (int field = 0; field < got.length; field++) {
            int wanted = best == null ? -1 : best[field];
            same("number " + field + " of the best placement", got[field], () -> wanted);
        }
        if (random(4) == 0) {
            same("bestStrapEffect()", duel::bestStrapEffect, model.now::bestStrapEffect);
        }
    }

    private void queryRegions(int column, int row) {
        Model.Position now = model.now;
        Set<Set<List<Integer>>> regions = now.regions();
        Set<List<Integer>> dead = now.dead();
        int largest = 0;
        for (Set<List<Integer>> region : regions) {
            largest = Math.max(largest, region.size());
        }
        int most = largest;
        same("regionCount()", duel::regionCount, regions::size);
        same("largestRegion()", duel::largestRegion, () -> most);
        same("regionSize(" + column + ", " + row + ")", () -> duel.regionSize(column, row), () -> {
            bounds(now.inside(column, row));
            return now.region(column, row).size();
        });
        same("isDead(" + column + ", " + row + ")", () -> duel.isDead(column, row) ? 1 : 0, () -> {
            bounds(now.inside(column, row));
            return dead.contains(List.of(column, row)) ? 1 : 0;
        });
        same("deadCells()", duel::deadCells, dead::size);
        float mean = regions.isEmpty() ? 0.0f : (float) now.emptyCells() / (float) regions.size();
        Check.dueExactly("meanRegion()", duel.meanRegion(), mean);
    }

    private void queryWhole() {
        Model.Position now = model.now;
        int usable = now.columns * now.rows - now.blocked.size();
        int covered = usable - now.emptyCells();
        same("columns()", duel::columns, () -> now.columns);
        same("rows()", duel::rows, () -> now.rows);
        same("emptyCells()", duel::emptyCells, now::emptyCells);
        same("pieceCount()", duel::pieceCount, now.pieces::size);
        same("strapCount()", duel::strapCount, now.straps::size);
        same("completeRows()", duel::completeRows, now::completeRows);
        same("undoableChanges()", duel::undoableChanges, model.past::size);
        same("inconsistencies()", duel::inconsistencies, () -> 0);
        Check.dueExactly("coverage()", duel.coverage(), usable == 0 ? 0.0 : (double) covered / (double) usable);
        StringBuilder output = new StringBuilder();
        for (int row = 0; row < now.rows; row++) {
            output.append(row == 0 ? "" : "\n");
            for (int column = 0; column < now.columns; column++) {
                int piece = now.pieceAt(column, row);
                output.append(now.blockedAt(column, row) ? '#' : piece < 0 ? '.'
                        : "abcdefghijklmnopqrstuvwxyzABCDEF".charAt(piece));
            }
        }
        same("writeTrunk()", duel::writeTrunk, output::length);
        int index = random(output.length() + 2) - 1;
        same("outputByte(" + index + ")", () -> duel.outputByte(index),
                () -> index >= 0 && index < output.length() ? output.charAt(index) : -1);
    }
}
