import java.io.IOException;
import java.nio.file.Files;
import java.nio.file.Path;
import java.util.ArrayList;
import java.util.List;

/** The examples of README.md: each call stands there in this order, and has the answer named there. */
public final class ReadmeTest {
    private final List<String> lines = new ArrayList<>();
    private final TrunkDuel duel = new TrunkDuel();
    private int next = 0;

    public static void main(String[] args) throws IOException {
        ReadmeTest test = new ReadmeTest();
        for (String line : Files.readAllLines(Path.of("README.md"))) {
            if (line.startsWith("duel.") || line.startsWith("write(duel, ")) {
                test.lines.add(line);
            }
        }
        test.input();
        test.changes();
        test.trunk();
        test.pieces();
        test.players();
        test.placements();
        test.regions();
        test.reports();
        Check.due("examples in README.md", test.lines.size(), test.next);
        Check.finish("ReadmeTest");
    }

    /** The next example is this call, and what README.md has behind it begins with the answer. */
    private void example(String call, Object answer) {
        String line = next < lines.size() ? lines.get(next) : "none";
        String want = "duel." + call + ";  // " + answer;
        boolean same = line.equals(want) || line.startsWith(want + ", ");
        Check.due("example " + next + " of README.md", same ? want : line, want);
        next++;
    }

    private void refused(String call, Class<? extends RuntimeException> type, Runnable run) {
        Check.throwsExactly(call, type, run);
        example(call, "throws " + type.getSimpleName());
    }

    private void writing(String text) {
        String line = next < lines.size() ? lines.get(next) : "none";
        Check.due("example " + next + " of README.md", line, "write(duel, \"" + text + "\");");
        next++;
        write(duel, text);
    }

    // The two functions of README.md.
    static void write(TrunkDuel duel, String text) {
        for (int start = 0; start < text.length(); start += 20) {
            duel.append(four(text, start), four(text, start + 4), four(text, start + 8),
                    four(text, start + 12), four(text, start + 16));
        }
        duel.truncateInput(text.length());
    }

    static int four(String text, int start) {
        int value = 0;
        for (int index = start; index < start + 4; index++) {
            value = value << 8 | (index < text.length() ? text.charAt(index) : ' ');
        }
        return value;
    }

    private void input() {
        writing("trunk 4 4; strap 1 0 right; player ann 1 1 1 1 1 2; player bob 1 1 1 1 1 1;");
        example("load()", duel.load());
        writing("place square 0 0 0; place rod 1 3 1; strap 1 3 right;");
        example("play()", duel.play());
        example("errorCode()", duel.errorCode());
        example("errorOffset()", duel.errorOffset());
        writing("place bar 4 2 0;");
        example("play()", duel.play());
        example("errorCode()", duel.errorCode());
        example("errorOffset()", duel.errorOffset());
    }

    private void changes() {
        example("place(TrunkDuel.BAR, 0, 2, 0)", duel.place(TrunkDuel.BAR, 0, 2, 0));
        example("fastenStrap(0, 2, TrunkDuel.BELOW)", duel.fastenStrap(0, 2, TrunkDuel.BELOW));
        refused("place(TrunkDuel.BAR, 0, 0, 2)", IllegalStateException.class,
                () -> duel.place(TrunkDuel.BAR, 0, 0, 2));
        refused("pass()", IllegalStateException.class, duel::pass);
        example("save(0)", duel.save(0));
        example("undo()", duel.undo());
        example("undo()", duel.undo());
        example("restore(0)", duel.restore(0));
    }

    private void trunk() {
        example("columns()", duel.columns());
        example("rows()", duel.rows());
        example("emptyCells()", duel.emptyCells());
        example("pieceCount()", duel.pieceCount());
        example("strapCount()", duel.strapCount());
        example("completeRows()", duel.completeRows());
        example("undoableChanges()", duel.undoableChanges());
        example("isBlocked(0, 3)", duel.isBlocked(0, 3));
        example("pieceAt(1, 1)", duel.pieceAt(1, 1));
        example("pieceAt(2, 1)", duel.pieceAt(2, 1));
        example("hasStrap(1, 0, TrunkDuel.RIGHT)", duel.hasStrap(1, 0, TrunkDuel.RIGHT));
        refused("hasStrap(3, 0, TrunkDuel.RIGHT)", IndexOutOfBoundsException.class,
                () -> duel.hasStrap(3, 0, TrunkDuel.RIGHT));
        example("emptyInRow(1)", duel.emptyInRow(1));
    }

    private void pieces() {
        example("pieceShape(1)", duel.pieceShape(1));
        example("pieceRotation(1)", duel.pieceRotation(1));
        example("pieceColumn(1)", duel.pieceColumn(1));
        example("pieceRow(1)", duel.pieceRow(1));
        example("pieceOwner(1)", duel.pieceOwner(1));
        example("piecePoints(1)", duel.piecePoints(1));
    }

    private void players() {
        example("playerToMove()", duel.playerToMove());
        example("isOver()", duel.isOver());
        example("leader()", duel.leader());
        example("score(0)", duel.score(0));
        example("score(1)", duel.score(1));
        example("supply(1, TrunkDuel.BAR)", duel.supply(1, TrunkDuel.BAR));
        example("strapsLeft(1)", duel.strapsLeft(1));
        example("nameByte(1, 0)", duel.nameByte(1, 0));
        example("nameByte(1, 3)", duel.nameByte(1, 3));
    }

    private void placements() {
        example("fits(TrunkDuel.ELBOW, 0, 0, 2)", duel.fits(TrunkDuel.ELBOW, 0, 0, 2));
        example("misfitReason(TrunkDuel.ELBOW, 0, 0, 2)", duel.misfitReason(TrunkDuel.ELBOW, 0, 0, 2));
        example("misfitReason(TrunkDuel.ELBOW, 0, 2, 2)", duel.misfitReason(TrunkDuel.ELBOW, 0, 2, 2));
        example("pointsFor(TrunkDuel.BAR, 0, 1, 2)", duel.pointsFor(TrunkDuel.BAR, 0, 1, 2));
        example("mobility(0)", duel.mobility(0));
        example("fittingPlacements(TrunkDuel.BAR)", duel.fittingPlacements(TrunkDuel.BAR));
        example("mobilityAfter(TrunkDuel.CORNER, 2, 2, 2, 0)", duel.mobilityAfter(TrunkDuel.CORNER, 2, 2, 2, 0));
        example("bestShape()", duel.bestShape());
        example("bestRotation()", duel.bestRotation());
        example("bestColumn()", duel.bestColumn());
        example("bestRow()", duel.bestRow());
        example("bestStrapEffect()", duel.bestStrapEffect());
    }

    private void regions() {
        example("regionCount()", duel.regionCount());
        example("largestRegion()", duel.largestRegion());
        example("regionSize(2, 1)", duel.regionSize(2, 1));
        example("regionSize(0, 0)", duel.regionSize(0, 0));
        example("isDead(2, 1)", duel.isDead(2, 1));
        example("deadCells()", duel.deadCells());
    }

    private void reports() {
        example("inconsistencies()", duel.inconsistencies());
        example("coverage()", duel.coverage());
        example("meanRegion()", duel.meanRegion());
        example("writeTrunk()", duel.writeTrunk());
        example("outputByte(2)", duel.outputByte(2));
        example("outputByte(4)", duel.outputByte(4));
        example("outputByte(19)", duel.outputByte(19));
    }
}
