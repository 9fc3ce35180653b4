import java.util.function.Consumer;
import java.util.function.Supplier;
import java.util.function.ToIntFunction;

/** What the tests of the document's bounds have in common. */
final class Bounds {
    static final int MIN = Integer.MIN_VALUE;
    static final int MAX = Integer.MAX_VALUE;
    static final int NONE = TrunkDuel.NONE;
    static final Class<IllegalArgumentException> ARGUMENT = IllegalArgumentException.class;
    static final Class<IndexOutOfBoundsException> BOUNDS = IndexOutOfBoundsException.class;
    static final Class<IllegalStateException> STATE = IllegalStateException.class;
    // Players without pieces, so that both may pass; each has a strap.
    static final String POOR = "player a 0 0 0 0 0 1;player b 0 0 0 0 0 1;";
    static final String RICH = "player a 9 9 9 9 9 9;player b 9 9 9 9 9 9;";

    private static final int LINE = 7;

    private Bounds() {
    }

    /** Just outside, far outside, and what a byte or a short would take for something inside. */
    static int[] outside(int low, int high) {
        return new int[] {low - 1, high + 1, MIN, MIN + 1, MAX, MAX - 1, low + 256, high - 256,
            low + 65536, high - 65536, 1 << 30, -1 << 30};
    }

    // ---- games

    /** A game on 5 x 4 cells where all that a refused call could spoil is in use. */
    static TrunkDuel busy() {
        TrunkDuel duel = new TrunkDuel();
        duel.place(TrunkDuel.SQUARE, 0, 0, 0);
        duel.save(0);
        duel.writeTrunk();
        duel.place(TrunkDuel.CORNER, 1, 3, 0);
        duel.fastenStrap(1, 3, TrunkDuel.RIGHT);
        Check.play(duel, "place bar 4 0 0;");
        Check.write(duel, 0, "place rod 0 2 3; x");
        return duel;
    }

    /** A game of 3 x 3 empty cells that is over, though both players have a strap. */
    static TrunkDuel over() {
        TrunkDuel duel = Check.loaded("trunk 3 3;" + POOR);
        duel.pass();
        duel.save(1);
        duel.pass();
        duel.writeTrunk();
        return duel;
    }

    static TrunkDuel with(String trunk, String players) {
        return Check.loaded(trunk + players);
    }

    // ---- refused calls

    /** The call throws, and behind it all calls answer as if it had never been made. */
    static void refused(String call, Class<? extends RuntimeException> type,
            Supplier<TrunkDuel> past, Consumer<TrunkDuel> run) {
        TrunkDuel duel = past.get();
        Check.throwsExactly(call, type, () -> run.accept(duel));
        Check.due("all behind " + call, everything(duel), everything(past.get()));
    }

    /** The call answers, and behind it all calls answer as if it had never been made. */
    static void quiet(String call, int want, Supplier<TrunkDuel> past, ToIntFunction<TrunkDuel> run) {
        TrunkDuel duel = past.get();
        Check.due(call, run.applyAsInt(duel), want);
        Check.due("all behind " + call, everything(duel), everything(past.get()));
    }

    /** The answers of all calls; the last of them use the object up. */
    static String everything(TrunkDuel duel) {
        StringBuilder seen = new StringBuilder(Check.view(duel));
        seen.append('\n');
        addNumbers(duel, seen);
        addCells(duel, seen);
        addOutput(duel, seen);
        addPast(duel, seen);
        addSaved(duel, 0, seen);
        addSaved(duel, 1, seen);
        addInput(duel, seen);
        return seen.toString();
    }

    private static void addNumbers(TrunkDuel duel, StringBuilder seen) {
        int[] numbers = {
            duel.errorCode(), duel.errorOffset(), duel.emptyCells(), duel.pieceCount(),
            duel.strapCount(), duel.completeRows(), duel.undoableChanges(), duel.leader(),
            duel.mobility(0), duel.mobility(1), duel.fittingPlacements(0), duel.fittingPlacements(1),
            duel.fittingPlacements(2), duel.fittingPlacements(3), duel.fittingPlacements(4),
            duel.bestShape(), duel.bestRotation(), duel.bestColumn(), duel.bestRow(),
            duel.bestStrapEffect(), duel.regionCount(), duel.largestRegion(), duel.deadCells(),
            duel.inconsistencies()};
        for (int number : numbers) {
            seen.append(number).append(' ');
        }
        seen.append(duel.coverage()).append(' ').append(duel.meanRegion()).append('\n');
    }

    private static void addCells(TrunkDuel duel, StringBuilder seen) {
        for (int row = 0; row < duel.rows(); row++) {
            seen.append(duel.emptyInRow(row)).append(':');
            for (int column = 0; column < duel.columns(); column++) {
                seen.append(duel.regionSize(column, row)).append(duel.isDead(column, row) ? "d " : " ");
            }
        }
        seen.append('\n');
    }

    private static void addOutput(TrunkDuel duel, StringBuilder seen) {
        int index = 0;
        while (index < 80 && duel.outputByte(index) != NONE) {
            seen.append((char) duel.outputByte(index));
            index++;
        }
        seen.append("\noutput of ").append(index).append('\n');
    }

    private static void addPast(TrunkDuel duel, StringBuilder seen) {
        for (int left = duel.undoableChanges(); left > 0; left--) {
            seen.append(duel.undo()).append(" left: ");
            addLine(duel, seen);
        }
    }

    private static void addSaved(TrunkDuel duel, int slot, StringBuilder seen) {
        try {
            seen.append(duel.restore(slot)).append(" pieces in slot ").append(slot).append(": ");
            addLine(duel, seen);
        } catch (IllegalStateException e) {
            seen.append("nothing in slot ").append(slot).append('\n');
        }
    }

    private static void addInput(TrunkDuel duel, StringBuilder seen) {
        seen.append("buffer ").append(duel.append(0x20202020, 0x20202020, 0x20202020, 0x20202020, 0x20202020));
        seen.append(" play ").append(duel.play()).append(' ').append(duel.errorCode());
        seen.append(' ').append(duel.errorOffset()).append('\n');
    }

    private static void addLine(TrunkDuel duel, StringBuilder seen) {
        int[] line = new int[LINE];
        line[0] = duel.columns() * 10 + duel.rows();
        line[1] = duel.emptyCells();
        line[2] = duel.pieceCount();
        line[3] = duel.strapCount();
        line[4] = duel.score(0) * 100 + duel.score(1);
        line[5] = duel.strapsLeft(0) * 10 + duel.strapsLeft(1);
        line[6] = duel.playerToMove();
        for (int number : line) {
            seen.append(number).append(' ');
        }
        seen.append('\n');
    }
}
