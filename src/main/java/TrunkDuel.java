/**
 * A polyomino packing game for two players on a rectangular grid, with straps that pieces may not
 * cross. The document ../shared/DOC.md says what each call does.
 */
public final class TrunkDuel {
    public static final int NONE = -1;
    public static final int BAR = 0;
    public static final int ELBOW = 1;
    public static final int ROD = 2;
    public static final int SQUARE = 3;
    public static final int CORNER = 4;
    public static final int RIGHT = 0;
    public static final int BELOW = 1;

    private static final int SHAPES = 5;
    private static final int ROTATIONS = 4;
    private static final int SIDES = 2;
    private static final int PLAYERS = 2;
    private static final int SLOTS = 2;
    private static final int LEAST_SPAN = 3;
    private static final int MOST_SPAN = 8;
    private static final int MOST_CELLS = MOST_SPAN * MOST_SPAN;
    private static final int MOST_EDGES = MOST_CELLS * SIDES;
    // Of one shape.
    private static final int MOST_PLACEMENTS = MOST_CELLS * ROTATIONS;
    // No shape covers fewer than two cells, so no more pieces than this can lie in a trunk.
    private static final int MOST_PIECES = MOST_CELLS / 2;
    private static final int MOST_INPUT = 600;
    private static final int MOST_OUTPUT = MOST_CELLS + MOST_SPAN - 1;
    private static final int MOST_CHANGES = 8;
    private static final int MOST_SUPPLY = 9;
    private static final int MOST_NAME = 6;
    private static final int LAST_PASS = 2;

    // What a cell holds; the numbers from 0 on are those of the pieces.
    private static final int EMPTY = -1;
    private static final int BLOCKED = -2;
    private static final int OUTSIDE = -3;

    private static final int ALPHABET = 26;
    private static final String OPENING =
            "trunk 5 4; block 4 0; block 0 3; strap 1 1 right; strap 2 2 below; player ann 2 2 1 1 1 1; player bob 1 3 1 0 1 2;";

    private final Reader reader = new Reader();
    private final State present = new State();
    private final State trial = new State();
    private final History history = new History();
    private final State[] saved = {new State(), new State()};
    private final boolean[] isSaved = new boolean[SLOTS];
    private final Footprint footprint = new Footprint();
    private final Choice best = new Choice();
    private final Crossings crossings = new Crossings();
    private final Regions regions = new Regions();
    private final int[] output = new int[MOST_OUTPUT];
    private int outputLength = 0;

    public TrunkDuel() {
        reader.writeText(OPENING);
        reader.startSetup();
        if (reader.readSetup() && reader.readCommands()) {
            present.copyFrom(reader.draft);
        }
        reader.clear();
    }

    // ---- input

    public int append(int a, int b, int c, int d, int e) {
        if (!reader.hasRoom()) {
            return NONE;
        }
        reader.writeFour(a);
        reader.writeFour(b);
        reader.writeFour(c);
        reader.writeFour(d);
        reader.writeFour(e);
        return reader.length;
    }

    public int truncateInput(int length) throws IllegalArgumentException {
        if (length < 0 || length > reader.length) {
            throw new IllegalArgumentException("the input buffer has no such length");
        }
        reader.length = length;
        return length;
    }

    public int load() {
        reader.startSetup();
        boolean accepted = reader.readSetup() && reader.readCommands();
        reader.clear();
        if (!accepted) {
            return NONE;
        }
        history.remember(present);
        present.copyFrom(reader.draft);
        return present.trunk.countCells(EMPTY);
    }

    public int play() {
        reader.startScript(present);
        boolean accepted = reader.readCommands();
        reader.clear();
        if (!accepted) {
            return NONE;
        }
        history.remember(present);
        present.copyFrom(reader.draft);
        return reader.commands;
    }

    public int errorCode() {
        return reader.errorCode;
    }

    public int errorOffset() {
        return reader.errorOffset;
    }

    // ---- changes

    public int place(int shape, int rotation, int column, int row)
            throws IllegalArgumentException, IndexOutOfBoundsException, IllegalStateException {
        aimAt(shape, rotation, column, row);
        if (!present.allowsPiece(footprint)) {
            throw new IllegalStateException("the placement is not possible now");
        }
        history.remember(present);
        return present.putPiece(footprint);
    }

    public int fastenStrap(int column, int row, int side)
            throws IllegalArgumentException, IndexOutOfBoundsException, IllegalStateException {
        requireEdge(column, row, side);
        if (!present.allowsStrap(column, row, side)) {
            throw new IllegalStateException("the strap can not be fastened now");
        }
        history.remember(present);
        return present.putStrap(column, row, side);
    }

    public int pass() throws IllegalStateException {
        if (!present.allowsPass(footprint)) {
            throw new IllegalStateException("the player can not pass now");
        }
        history.remember(present);
        return present.skipTurn();
    }

    public int undo() throws IllegalStateException {
        if (history.count == 0) {
            throw new IllegalStateException("there is no change to undo");
        }
        history.bringBack(present);
        return history.count;
    }

    public int save(int slot) throws IllegalArgumentException {
        requireSlot(slot);
        saved[slot].copyFrom(present);
        isSaved[slot] = true;
        return present.pieces.count;
    }

    public int restore(int slot) throws IllegalArgumentException, IllegalStateException {
        requireSlot(slot);
        if (!isSaved[slot]) {
            throw new IllegalStateException("nothing is saved in the slot");
        }
        history.remember(present);
        present.copyFrom(saved[slot]);
        return present.pieces.count;
    }

    // ---- the trunk

    public int columns() {
        return present.trunk.columns;
    }

    public int rows() {
        return present.trunk.rows;
    }

    public int emptyCells() {
        return present.trunk.countCells(EMPTY);
    }

    public int pieceCount() {
        return present.pieces.count;
    }

    public int strapCount() {
        return present.trunk.countStraps();
    }

    public int completeRows() {
        int complete = 0;
        for (int row = 0; row < present.trunk.rows; row++) {
            if (present.trunk.countEmptyIn(row) == 0) {
                complete++;
            }
        }
        return complete;
    }

    public int undoableChanges() {
        return history.count;
    }

    public boolean isBlocked(int column, int row) throws IndexOutOfBoundsException {
        requireCell(column, row);
        return present.trunk.cellAt(column, row) == BLOCKED;
    }

    public int pieceAt(int column, int row) throws IndexOutOfBoundsException {
        requireCell(column, row);
        int content = present.trunk.cellAt(column, row);
        return content >= 0 ? content : NONE;
    }

    public boolean hasStrap(int column, int row, int side)
            throws IllegalArgumentException, IndexOutOfBoundsException {
        requireEdge(column, row, side);
        return present.trunk.strapAt(column, row, side);
    }

    public int emptyInRow(int row) throws IndexOutOfBoundsException {
        if (row < 0 || row >= present.trunk.rows) {
            throw new IndexOutOfBoundsException("there is no such row");
        }
        return present.trunk.countEmptyIn(row);
    }

    public int pieceShape(int piece) throws IndexOutOfBoundsException {
        requirePiece(piece);
        return present.pieces.shapeOf(piece);
    }

    public int pieceRotation(int piece) throws IndexOutOfBoundsException {
        requirePiece(piece);
        return present.pieces.rotationOf(piece);
    }

    public int pieceColumn(int piece) throws IndexOutOfBoundsException {
        requirePiece(piece);
        return present.pieces.anchorColumnOf(piece);
    }

    public int pieceRow(int piece) throws IndexOutOfBoundsException {
        requirePiece(piece);
        return present.pieces.anchorRowOf(piece);
    }

    public int pieceOwner(int piece) throws IndexOutOfBoundsException {
        requirePiece(piece);
        return present.pieces.ownerOf(piece);
    }

    public int piecePoints(int piece) throws IndexOutOfBoundsException {
        requirePiece(piece);
        return present.pieces.pointsOf(piece);
    }

    // ---- the players

    public int playerToMove() {
        return present.isFinished() ? NONE : present.mover;
    }

    public boolean isOver() {
        return present.isFinished();
    }

    public int leader() {
        int lead = present.first.score - present.second.score;
        if (lead == 0) {
            return NONE;
        }
        return lead > 0 ? 0 : 1;
    }

    public int score(int player) throws IndexOutOfBoundsException {
        requirePlayer(player);
        return present.playerOf(player).score;
    }

    public int supply(int player, int shape)
            throws IndexOutOfBoundsException, IllegalArgumentException {
        requirePlayer(player);
        requireShape(shape);
        return present.playerOf(player).supplyOf(shape);
    }

    public int strapsLeft(int player) throws IndexOutOfBoundsException {
        requirePlayer(player);
        return present.playerOf(player).straps;
    }

    public int nameByte(int player, int index) throws IndexOutOfBoundsException {
        requirePlayer(player);
        return present.playerOf(player).letterAt(index);
    }

    // ---- placements

    public boolean fits(int shape, int rotation, int column, int row)
            throws IllegalArgumentException, IndexOutOfBoundsException {
        aimAt(shape, rotation, column, row);
        return present.trunk.misfitOf(footprint) == Trunk.FITTING;
    }

    public int misfitReason(int shape, int rotation, int column, int row)
            throws IllegalArgumentException, IndexOutOfBoundsException {
        aimAt(shape, rotation, column, row);
        return present.trunk.misfitOf(footprint);
    }

    public int pointsFor(int shape, int rotation, int column, int row)
            throws IllegalArgumentException, IndexOutOfBoundsException {
        aimAt(shape, rotation, column, row);
        if (present.trunk.misfitOf(footprint) != Trunk.FITTING) {
            return NONE;
        }
        return present.trunk.pointsOf(footprint);
    }

    public int mobility(int player) throws IndexOutOfBoundsException {
        requirePlayer(player);
        return present.countMoves(player, footprint);
    }

    public int fittingPlacements(int shape) throws IllegalArgumentException {
        requireShape(shape);
        return present.trunk.countFitting(shape, footprint);
    }

    public int mobilityAfter(int shape, int rotation, int column, int row, int player)
            throws IllegalArgumentException, IndexOutOfBoundsException {
        aimAt(shape, rotation, column, row);
        requirePlayer(player);
        if (!present.allowsPiece(footprint)) {
            return NONE;
        }
        trial.copyFrom(present);
        trial.putPiece(footprint);
        return trial.countMoves(player, footprint);
    }

    public int bestShape() {
        best.search(present, footprint);
        return best.shape;
    }

    public int bestRotation() {
        best.search(present, footprint);
        return best.rotation;
    }

    public int bestColumn() {
        best.search(present, footprint);
        return best.column;
    }

    public int bestRow() {
        best.search(present, footprint);
        return best.row;
    }

    public int bestStrapEffect() {
        if (present.isFinished()) {
            return NONE;
        }
        if (present.playerOf(present.mover).straps == 0) {
            return 0;
        }
        return crossings.mostFor(present.playerOf(1 - present.mover), present.trunk, footprint);
    }

    // ---- regions

    public int regionCount() {
        regions.survey(present.trunk);
        return regions.count;
    }

    public int largestRegion() {
        regions.survey(present.trunk);
        int largest = 0;
        for (int region = 0; region < regions.count; region++) {
            largest = Math.max(largest, regions.sizeOf(region));
        }
        return largest;
    }

    public int regionSize(int column, int row) throws IndexOutOfBoundsException {
        requireCell(column, row);
        regions.survey(present.trunk);
        return regions.sizeAt(column, row);
    }

    // Each cell of each shape has a neighbour in the shape, and a bar fits over any two connected
    // neighbours. So a cell is dead just when it is a region by itself.
    public boolean isDead(int column, int row) throws IndexOutOfBoundsException {
        requireCell(column, row);
        regions.survey(present.trunk);
        return regions.sizeAt(column, row) == 1;
    }

    public int deadCells() {
        regions.survey(present.trunk);
        int dead = 0;
        for (int region = 0; region < regions.count; region++) {
            if (regions.sizeOf(region) == 1) {
                dead++;
            }
        }
        return dead;
    }

    // ---- consistency and averages

    public int inconsistencies() {
        int points = 0;
        int cells = 0;
        int crossing = 0;
        for (int piece = 0; piece < present.pieces.count; piece++) {
            footprint.turn(present.pieces.shapeOf(piece), present.pieces.rotationOf(piece));
            footprint.moveTo(
                    present.pieces.anchorColumnOf(piece), present.pieces.anchorRowOf(piece));
            points += present.pieces.pointsOf(piece);
            cells += footprint.size;
            // A strap can't come between two cells of a piece that lies there already, so one
            // that is there now was there when the piece was placed.
            if (present.trunk.isCrossedBy(footprint)) {
                crossing++;
            }
        }
        int scores = present.first.score + present.second.score;
        int covered = present.trunk.countCovered();
        return Math.abs(points - scores) + crossing + Math.abs(covered - cells);
    }

    public double coverage() {
        int covered = present.trunk.countCovered();
        int usable = covered + present.trunk.countCells(EMPTY);
        if (usable == 0) {
            return 0.0;
        }
        return (double) covered / (double) usable;
    }

    public float meanRegion() {
        regions.survey(present.trunk);
        if (regions.count == 0) {
            return 0.0f;
        }
        return (float) present.trunk.countCells(EMPTY) / (float) regions.count;
    }

    // ---- output

    public int writeTrunk() {
        outputLength = 0;
        for (int row = 0; row < present.trunk.rows; row++) {
            if (row > 0) {
                writeByte('\n');
            }
            for (int column = 0; column < present.trunk.columns; column++) {
                writeByte(signOf(present.trunk.cellAt(column, row)));
            }
        }
        return outputLength;
    }

    public int outputByte(int index) {
        if (index < 0 || index >= outputLength) {
            return NONE;
        }
        return output[index];
    }

    private void writeByte(int value) {
        if (outputLength < MOST_OUTPUT) {
            output[outputLength] = value;
            outputLength++;
        }
    }

    private static int signOf(int content) {
        if (content == EMPTY) {
            return '.';
        }
        if (content == BLOCKED) {
            return '#';
        }
        return content < ALPHABET ? 'a' + content : 'A' + content - ALPHABET;
    }

    // ---- tests of arguments

    /** Tests the arguments of a placement and makes it the one that the footprint shows. */
    private void aimAt(int shape, int rotation, int column, int row) {
        requireShape(shape);
        if (rotation < 0 || rotation >= ROTATIONS) {
            throw new IllegalArgumentException("there is no such rotation");
        }
        requireCell(column, row);
        footprint.turn(shape, rotation);
        footprint.moveTo(column, row);
    }

    private static void requireShape(int shape) {
        if (shape < 0 || shape >= SHAPES) {
            throw new IllegalArgumentException("there is no such shape");
        }
    }

    private static void requireSlot(int slot) {
        if (slot < 0 || slot >= SLOTS) {
            throw new IllegalArgumentException("there is no such slot");
        }
    }

    private static void requirePlayer(int player) {
        if (player < 0 || player >= PLAYERS) {
            throw new IndexOutOfBoundsException("there is no such player");
        }
    }

    private void requireCell(int column, int row) {
        if (!present.trunk.holds(column, row)) {
            throw new IndexOutOfBoundsException("the cell is not in the trunk");
        }
    }

    private void requireEdge(int column, int row, int side) {
        if (side < 0 || side >= SIDES) {
            throw new IllegalArgumentException("there is no such side");
        }
        if (!present.trunk.holdsEdge(column, row, side)) {
            throw new IndexOutOfBoundsException("the edge is not in the trunk");
        }
    }

    private void requirePiece(int piece) {
        if (piece < 0 || piece >= present.pieces.count) {
            throw new IndexOutOfBoundsException("there is no such piece");
        }
    }

    /** The cells of one placement, and the edges between two of them. */
    private static final class Footprint {
        private static final int MOST = 4;
        private static final int[] SIZES = {2, 3, 3, 4, 4};
        // The offsets of the cells with rotation 0: a line for each shape, MOST numbers long.
        private static final int[] OFFSETS_RIGHT = {
            0, 1, 0, 0,
            0, 1, 0, 0,
            0, 1, 2, 0,
            0, 1, 0, 1,
            0, 1, 2, 0};
        private static final int[] OFFSETS_DOWN = {
            0, 0, 0, 0,
            0, 0, 1, 0,
            0, 0, 0, 0,
            0, 0, 1, 1,
            0, 0, 0, 1};

        int shape = BAR;
        int rotation = 0;
        int column = 0;
        int row = 0;
        int size = 0;
        int edges = 0;
        private final int[] right = new int[MOST];
        private final int[] down = new int[MOST];
        private final int[] edgeRight = new int[MOST];
        private final int[] edgeDown = new int[MOST];
        private final int[] edgeSide = new int[MOST];

        void turn(int newShape, int newRotation) {
            shape = newShape;
            rotation = newRotation;
            size = newShape >= 0 && newShape < SHAPES ? SIZES[newShape] : 0;
            for (int cell = 0; cell < size; cell++) {
                int offsetRight = OFFSETS_RIGHT[newShape * MOST + cell];
                int offsetDown = OFFSETS_DOWN[newShape * MOST + cell];
                for (int step = 0; step < newRotation; step++) {
                    int turned = -offsetDown;
                    offsetDown = offsetRight;
                    offsetRight = turned;
                }
                right[cell] = offsetRight;
                down[cell] = offsetDown;
            }
            findEdges();
        }

        void moveTo(int newColumn, int newRow) {
            column = newColumn;
            row = newRow;
        }

        /** Stands before the first placement of a shape; advance() then goes through them all. */
        void startAll(int newShape) {
            turn(newShape, 0);
            moveTo(NONE, 0);
        }

        /** Goes on by column, then row, then rotation; false behind the last placement. */
        boolean advance(int columns, int rows) {
            column++;
            if (column < columns) {
                return true;
            }
            column = 0;
            row++;
            if (row < rows) {
                return true;
            }
            row = 0;
            if (rotation >= ROTATIONS - 1) {
                return false;
            }
            turn(shape, rotation + 1);
            return true;
        }

        int columnOf(int cell) {
            return cell >= 0 && cell < MOST ? column + right[cell] : NONE;
        }

        int rowOf(int cell) {
            return cell >= 0 && cell < MOST ? row + down[cell] : NONE;
        }

        int edgeColumnOf(int edge) {
            return edge >= 0 && edge < MOST ? column + edgeRight[edge] : NONE;
        }

        int edgeRowOf(int edge) {
            return edge >= 0 && edge < MOST ? row + edgeDown[edge] : NONE;
        }

        int sideOf(int edge) {
            return edge >= 0 && edge < MOST ? edgeSide[edge] : NONE;
        }

        private void findEdges() {
            edges = 0;
            for (int cell = 0; cell < size; cell++) {
                for (int other = cell + 1; other < size; other++) {
                    int apartRight = Math.abs(right[cell] - right[other]);
                    int apartDown = Math.abs(down[cell] - down[other]);
                    if (apartRight + apartDown == 1 && edges < MOST) {
                        edgeRight[edges] = Math.min(right[cell], right[other]);
                        edgeDown[edges] = Math.min(down[cell], down[other]);
                        edgeSide[edges] = apartDown == 0 ? RIGHT : BELOW;
                        edges++;
                    }
                }
            }
        }
    }

    /** The cells of the trunk and the straps on their edges. */
    private static final class Trunk {
        // The answers of misfitReason().
        private static final int FITTING = 0;
        private static final int CELL_OUTSIDE = 1;
        private static final int CELL_BLOCKED = 2;
        private static final int CELL_COVERED = 3;
        private static final int STRAP_CROSSED = 4;

        int columns = LEAST_SPAN;
        int rows = LEAST_SPAN;
        private final int[] cells = new int[MOST_CELLS];
        private final boolean[] straps = new boolean[MOST_EDGES];

        void clear(int newColumns, int newRows) {
            columns = Math.min(newColumns, MOST_SPAN);
            rows = Math.min(newRows, MOST_SPAN);
            for (int cell = 0; cell < MOST_CELLS; cell++) {
                cells[cell] = EMPTY;
            }
            for (int edge = 0; edge < MOST_EDGES; edge++) {
                straps[edge] = false;
            }
        }

        void copyFrom(Trunk other) {
            columns = other.columns;
            rows = other.rows;
            System.arraycopy(other.cells, 0, cells, 0, MOST_CELLS);
            System.arraycopy(other.straps, 0, straps, 0, MOST_EDGES);
        }

        boolean holds(int column, int row) {
            return column >= 0 && column < columns && row >= 0 && row < rows;
        }

        boolean holdsEdge(int column, int row, int side) {
            if (!holds(column, row)) {
                return false;
            }
            return side == RIGHT ? column < columns - 1 : row < rows - 1;
        }

        int cellAt(int column, int row) {
            if (column < 0 || column >= columns || row < 0 || row >= rows) {
                return OUTSIDE;
            }
            return cells[row * MOST_SPAN + column];
        }

        void setCell(int column, int row, int content) {
            if (holds(column, row)) {
                cells[row * MOST_SPAN + column] = content;
            }
        }

        boolean strapAt(int column, int row, int side) {
            if (column < 0 || column >= columns || row < 0 || row >= rows) {
                return false;
            }
            if (side < 0 || side >= SIDES) {
                return false;
            }
            return straps[(row * MOST_SPAN + column) * SIDES + side];
        }

        void setStrap(int column, int row, int side) {
            if (side >= 0 && side < SIDES && holdsEdge(column, row, side)) {
                straps[(row * MOST_SPAN + column) * SIDES + side] = true;
            }
        }

        /** What the second cell of an edge holds. */
        int cellBeyond(int column, int row, int side) {
            return side == RIGHT ? cellAt(column + 1, row) : cellAt(column, row + 1);
        }

        boolean isEdgeBlocked(int column, int row, int side) {
            return cellAt(column, row) == BLOCKED || cellBeyond(column, row, side) == BLOCKED;
        }

        boolean isEdgeCovered(int column, int row, int side) {
            int content = cellAt(column, row);
            return content >= 0 && content == cellBeyond(column, row, side);
        }

        int countEmptyIn(int row) {
            int count = 0;
            for (int column = 0; column < columns; column++) {
                if (cellAt(column, row) == EMPTY) {
                    count++;
                }
            }
            return count;
        }

        int countCells(int content) {
            int count = 0;
            for (int row = 0; row < rows; row++) {
                for (int column = 0; column < columns; column++) {
                    if (cellAt(column, row) == content) {
                        count++;
                    }
                }
            }
            return count;
        }

        int countCovered() {
            return columns * rows - countCells(EMPTY) - countCells(BLOCKED);
        }

        int countStraps() {
            int count = 0;
            for (int edge = 0; edge < MOST_EDGES; edge++) {
                if (straps[edge]) {
                    count++;
                }
            }
            return count;
        }

        int misfitOf(Footprint footprint) {
            boolean blocked = false;
            boolean covered = false;
            for (int cell = 0; cell < footprint.size; cell++) {
                int content = cellAt(footprint.columnOf(cell), footprint.rowOf(cell));
                if (content == OUTSIDE) {
                    return CELL_OUTSIDE;
                }
                blocked = blocked || content == BLOCKED;
                covered = covered || content >= 0;
            }
            if (blocked) {
                return CELL_BLOCKED;
            }
            if (covered) {
                return CELL_COVERED;
            }
            return isCrossedBy(footprint) ? STRAP_CROSSED : FITTING;
        }

        boolean isCrossedBy(Footprint footprint) {
            for (int edge = 0; edge < footprint.edges; edge++) {
                int column = footprint.edgeColumnOf(edge);
                int row = footprint.edgeRowOf(edge);
                if (strapAt(column, row, footprint.sideOf(edge))) {
                    return true;
                }
            }
            return false;
        }

        /** Moves the footprint on to its next placement that fits; false if there is none left. */
        boolean findNext(Footprint footprint) {
            for (int tried = 0; tried < MOST_PLACEMENTS; tried++) {
                if (!footprint.advance(columns, rows)) {
                    return false;
                }
                if (misfitOf(footprint) == FITTING) {
                    return true;
                }
            }
            return false;
        }

        int countFitting(int shape, Footprint footprint) {
            int count = 0;
            footprint.startAll(shape);
            while (count < MOST_PLACEMENTS && findNext(footprint)) {
                count++;
            }
            return count;
        }

        /** The points of a placement that fits. */
        int pointsOf(Footprint footprint) {
            int points = footprint.size;
            for (int row = 0; row < rows; row++) {
                int filled = 0;
                for (int cell = 0; cell < footprint.size; cell++) {
                    if (footprint.rowOf(cell) == row) {
                        filled++;
                    }
                }
                if (filled > 0 && filled == countEmptyIn(row)) {
                    points += columns;
                }
            }
            return points;
        }
    }

    /** The pieces in the trunk, in the order in which they were placed. */
    private static final class Pieces {
        int count = 0;
        private final int[] shapes = new int[MOST_PIECES];
        private final int[] rotations = new int[MOST_PIECES];
        private final int[] anchorColumns = new int[MOST_PIECES];
        private final int[] anchorRows = new int[MOST_PIECES];
        private final int[] owners = new int[MOST_PIECES];
        private final int[] points = new int[MOST_PIECES];

        void copyFrom(Pieces other) {
            count = other.count;
            System.arraycopy(other.shapes, 0, shapes, 0, MOST_PIECES);
            System.arraycopy(other.rotations, 0, rotations, 0, MOST_PIECES);
            System.arraycopy(other.anchorColumns, 0, anchorColumns, 0, MOST_PIECES);
            System.arraycopy(other.anchorRows, 0, anchorRows, 0, MOST_PIECES);
            System.arraycopy(other.owners, 0, owners, 0, MOST_PIECES);
            System.arraycopy(other.points, 0, points, 0, MOST_PIECES);
        }

        void add(Footprint footprint, int owner, int scored) {
            if (count < MOST_PIECES) {
                shapes[count] = footprint.shape;
                rotations[count] = footprint.rotation;
                anchorColumns[count] = footprint.column;
                anchorRows[count] = footprint.row;
                owners[count] = owner;
                points[count] = scored;
                count++;
            }
        }

        boolean has(int piece) {
            return piece >= 0 && piece < count;
        }

        int shapeOf(int piece) {
            return has(piece) ? shapes[piece] : NONE;
        }

        int rotationOf(int piece) {
            return has(piece) ? rotations[piece] : NONE;
        }

        int anchorColumnOf(int piece) {
            return has(piece) ? anchorColumns[piece] : NONE;
        }

        int anchorRowOf(int piece) {
            return has(piece) ? anchorRows[piece] : NONE;
        }

        int ownerOf(int piece) {
            return has(piece) ? owners[piece] : NONE;
        }

        int pointsOf(int piece) {
            return has(piece) ? points[piece] : NONE;
        }
    }

    /** What one of the two players has. */
    private static final class Player {
        int score = 0;
        int straps = 0;
        private int nameLength = 0;
        private final int[] name = new int[MOST_NAME];
        private final int[] supplies = new int[SHAPES];

        void clear() {
            score = 0;
            straps = 0;
            nameLength = 0;
            for (int shape = 0; shape < SHAPES; shape++) {
                supplies[shape] = 0;
            }
        }

        void copyFrom(Player other) {
            score = other.score;
            straps = other.straps;
            nameLength = other.nameLength;
            System.arraycopy(other.name, 0, name, 0, MOST_NAME);
            System.arraycopy(other.supplies, 0, supplies, 0, SHAPES);
        }

        void addLetter(int letter) {
            if (nameLength < MOST_NAME) {
                name[nameLength] = letter;
                nameLength++;
            }
        }

        int letterAt(int index) {
            return index >= 0 && index < nameLength ? name[index] : NONE;
        }

        boolean hasNameOf(Player other) {
            if (nameLength != other.nameLength) {
                return false;
            }
            for (int index = 0; index < nameLength; index++) {
                if (name[index] != other.name[index]) {
                    return false;
                }
            }
            return true;
        }

        int supplyOf(int shape) {
            return shape >= 0 && shape < SHAPES ? supplies[shape] : 0;
        }

        void setSupply(int shape, int number) {
            if (shape >= 0 && shape < SHAPES) {
                supplies[shape] = number;
            }
        }
    }

    /** All that undo() and restore() bring back. */
    private static final class State {
        final Trunk trunk = new Trunk();
        final Pieces pieces = new Pieces();
        final Player first = new Player();
        final Player second = new Player();
        int mover = 0;
        private int passes = 0;

        void clear(int columns, int rows) {
            trunk.clear(columns, rows);
            pieces.count = 0;
            first.clear();
            second.clear();
            mover = 0;
            passes = 0;
        }

        void copyFrom(State other) {
            trunk.copyFrom(other.trunk);
            pieces.copyFrom(other.pieces);
            first.copyFrom(other.first);
            second.copyFrom(other.second);
            mover = other.mover;
            passes = other.passes;
        }

        boolean isFinished() {
            return passes >= LAST_PASS;
        }

        Player playerOf(int number) {
            return number == 0 ? first : second;
        }

        boolean allowsPiece(Footprint footprint) {
            return !isFinished()
                    && playerOf(mover).supplyOf(footprint.shape) > 0
                    && trunk.misfitOf(footprint) == Trunk.FITTING;
        }

        /** Places a piece that allowsPiece() allows; returns its points. */
        int putPiece(Footprint footprint) {
            Player player = playerOf(mover);
            int points = trunk.pointsOf(footprint);
            for (int cell = 0; cell < footprint.size; cell++) {
                trunk.setCell(footprint.columnOf(cell), footprint.rowOf(cell), pieces.count);
            }
            pieces.add(footprint, mover, points);
            player.setSupply(footprint.shape, player.supplyOf(footprint.shape) - 1);
            player.score += points;
            endTurn(0);
            return points;
        }

        boolean allowsStrap(int column, int row, int side) {
            return !isFinished()
                    && playerOf(mover).straps > 0
                    && !trunk.strapAt(column, row, side)
                    && !trunk.isEdgeBlocked(column, row, side)
                    && !trunk.isEdgeCovered(column, row, side);
        }

        /** Fastens a strap that allowsStrap() allows; returns how many the player has left. */
        int putStrap(int column, int row, int side) {
            Player player = playerOf(mover);
            trunk.setStrap(column, row, side);
            player.straps--;
            endTurn(0);
            return player.straps;
        }

        boolean allowsPass(Footprint footprint) {
            if (isFinished()) {
                return false;
            }
            Player player = playerOf(mover);
            for (int shape = 0; shape < SHAPES; shape++) {
                footprint.startAll(shape);
                if (player.supplyOf(shape) > 0 && trunk.findNext(footprint)) {
                    return false;
                }
            }
            return true;
        }

        /** Passes as allowsPass() allows; returns the passes in succession. */
        int skipTurn() {
            endTurn(passes + 1);
            return passes;
        }

        int countMoves(int number, Footprint footprint) {
            int count = 0;
            for (int shape = 0; shape < SHAPES; shape++) {
                if (playerOf(number).supplyOf(shape) > 0) {
                    count += trunk.countFitting(shape, footprint);
                }
            }
            return count;
        }

        private void endTurn(int newPasses) {
            passes = newPasses;
            mover = 1 - mover;
        }
    }

    /** The states before the latest changes, in rows that are used again in a circle. */
    private static final class History {
        int count = 0;
        private int oldest = 0;
        private final State[] states = new State[MOST_CHANGES];

        History() {
            for (int change = 0; change < MOST_CHANGES; change++) {
                states[change] = new State();
            }
        }

        void remember(State state) {
            if (count == MOST_CHANGES) {
                oldest = (oldest + 1) % MOST_CHANGES;
                count--;
            }
            states[(oldest + count) % MOST_CHANGES].copyFrom(state);
            count++;
        }

        void bringBack(State state) {
            if (count > 0) {
                count--;
                state.copyFrom(states[(oldest + count) % MOST_CHANGES]);
            }
        }
    }

    /** The placement that bestShape() and its sisters tell of; NONE everywhere without one. */
    private static final class Choice {
        int shape = NONE;
        int rotation = NONE;
        int column = NONE;
        int row = NONE;
        private int points = NONE;

        void search(State state, Footprint footprint) {
            shape = NONE;
            rotation = NONE;
            column = NONE;
            row = NONE;
            points = NONE;
            if (state.isFinished()) {
                return;
            }
            for (int tried = 0; tried < SHAPES; tried++) {
                if (state.playerOf(state.mover).supplyOf(tried) > 0) {
                    searchShape(tried, state.trunk, footprint);
                }
            }
        }

        private void searchShape(int tried, Trunk trunk, Footprint footprint) {
            footprint.startAll(tried);
            for (int found = 0; found < MOST_PLACEMENTS && trunk.findNext(footprint); found++) {
                take(footprint, trunk.pointsOf(footprint));
            }
        }

        // Placements come in the order that settles a tie: an equal one must not take over.
        private void take(Footprint footprint, int scored) {
            if (scored > points) {
                points = scored;
                shape = footprint.shape;
                rotation = footprint.rotation;
                column = footprint.column;
                row = footprint.row;
            }
        }
    }

    /** For each edge, how many placements that fit cover both of its cells. */
    private static final class Crossings {
        private final int[] counts = new int[MOST_EDGES];

        // A strap takes away just the placements across its edge. Where there is one, the edge has
        // no strap and both cells are empty, so a strap can be fastened there.
        int mostFor(Player player, Trunk trunk, Footprint footprint) {
            for (int edge = 0; edge < MOST_EDGES; edge++) {
                counts[edge] = 0;
            }
            for (int shape = 0; shape < SHAPES; shape++) {
                if (player.supplyOf(shape) > 0) {
                    countShape(shape, trunk, footprint);
                }
            }
            int most = 0;
            for (int edge = 0; edge < MOST_EDGES; edge++) {
                most = Math.max(most, counts[edge]);
            }
            return most;
        }

        private void countShape(int shape, Trunk trunk, Footprint footprint) {
            footprint.startAll(shape);
            for (int found = 0; found < MOST_PLACEMENTS && trunk.findNext(footprint); found++) {
                for (int edge = 0; edge < footprint.edges; edge++) {
                    int column = footprint.edgeColumnOf(edge);
                    int row = footprint.edgeRowOf(edge);
                    countEdge(column, row, footprint.sideOf(edge));
                }
            }
        }

        private void countEdge(int column, int row, int side) {
            int edge = (row * MOST_SPAN + column) * SIDES + side;
            if (edge >= 0 && edge < MOST_EDGES) {
                counts[edge]++;
            }
        }
    }

    /** The regions of a trunk, as they were when survey() was called. */
    private static final class Regions {
        int count = 0;
        private final int[] labels = new int[MOST_CELLS];
        private final int[] sizes = new int[MOST_CELLS];
        private final int[] queue = new int[MOST_CELLS];
        private int queued = 0;

        void survey(Trunk trunk) {
            count = 0;
            for (int cell = 0; cell < MOST_CELLS; cell++) {
                labels[cell] = NONE;
                sizes[cell] = 0;
            }
            for (int row = 0; row < trunk.rows; row++) {
                for (int column = 0; column < trunk.columns; column++) {
                    spreadFrom(column, row, trunk);
                }
            }
        }

        int sizeOf(int region) {
            return region >= 0 && region < count ? sizes[region] : 0;
        }

        int sizeAt(int column, int row) {
            if (column < 0 || column >= MOST_SPAN || row < 0 || row >= MOST_SPAN) {
                return 0;
            }
            return sizeOf(labels[row * MOST_SPAN + column]);
        }

        /** Makes a region of the cell and all that it is connected with, unless it is in one. */
        private void spreadFrom(int startColumn, int startRow, Trunk trunk) {
            queued = 0;
            reach(startColumn, startRow, trunk);
            for (int next = 0; next < queued && next < MOST_CELLS; next++) {
                int column = queue[next] % MOST_SPAN;
                int row = queue[next] / MOST_SPAN;
                if (!trunk.strapAt(column, row, RIGHT)) {
                    reach(column + 1, row, trunk);
                }
                if (!trunk.strapAt(column, row, BELOW)) {
                    reach(column, row + 1, trunk);
                }
                if (!trunk.strapAt(column - 1, row, RIGHT)) {
                    reach(column - 1, row, trunk);
                }
                if (!trunk.strapAt(column, row - 1, BELOW)) {
                    reach(column, row - 1, trunk);
                }
            }
            if (queued > 0 && count < MOST_CELLS) {
                sizes[count] = queued;
                count++;
            }
        }

        private void reach(int column, int row, Trunk trunk) {
            if (trunk.cellAt(column, row) != EMPTY || queued >= MOST_CELLS) {
                return;
            }
            int cell = row * MOST_SPAN + column;
            if (cell >= 0 && cell < MOST_CELLS && labels[cell] == NONE) {
                labels[cell] = count;
                queue[queued] = cell;
                queued++;
            }
        }
    }

    /** The input buffer, and what load() and play() make of it: a draft or an error. */
    private static final class Reader {
        private static final int APPENDED = 20;

        private static final int END = 0;
        private static final int WORD = 1;
        private static final int NUMBER = 2;
        private static final int SEMICOLON = 3;
        private static final int STRAY = 4;

        private static final int SYNTAX = 1;
        private static final int RANGE = 2;
        private static final int NO_EDGE = 3;
        private static final int DUPLICATE = 4;
        private static final int ON_BLOCKED = 5;
        private static final int IMPOSSIBLE = 6;

        // Larger than any number that a text may hold, so that long numbers need not be kept.
        private static final int TOO_LARGE = 1000;

        int length = 0;
        int errorCode = 0;
        int errorOffset = NONE;
        int commands = 0;
        final State draft = new State();
        private final Footprint footprint = new Footprint();
        private final int[] bytes = new int[MOST_INPUT];
        private int position = 0;
        private int tokenKind = END;
        private int tokenStart = 0;
        private int number = 0;
        private int edgeColumn = 0;
        private int edgeRow = 0;
        private int edgeSide = RIGHT;

        boolean hasRoom() {
            return length <= MOST_INPUT - APPENDED;
        }

        void writeText(String text) {
            for (int index = 0; index < text.length(); index++) {
                writeByte(text.charAt(index));
            }
        }

        void writeFour(int four) {
            writeByte(four >>> 24);
            writeByte(four >>> 16);
            writeByte(four >>> 8);
            writeByte(four);
        }

        private void writeByte(int value) {
            if (length >= 0 && length < MOST_INPUT) {
                bytes[length] = value & 255;
                length++;
            }
        }

        void startSetup() {
            commands = 0;
            errorCode = 0;
            errorOffset = NONE;
            position = 0;
            nextToken();
        }

        void startScript(State state) {
            startSetup();
            draft.copyFrom(state);
        }

        /** Reads a setup up to its commands. */
        boolean readSetup() {
            return readSize() && readBlocks() && readFreeStraps() && readPlayer(0) && readPlayer(1);
        }

        /** Reads commands to the end of the text, and carries them out on the draft. */
        boolean readCommands() {
            for (int read = 0; read <= MOST_INPUT && tokenKind != END; read++) {
                boolean done;
                if (wordIs("place")) {
                    done = readPiece();
                } else if (wordIs("strap")) {
                    done = readStrap();
                } else if (wordIs("pass")) {
                    done = draft.allowsPass(footprint) || fail(IMPOSSIBLE);
                    if (done) {
                        draft.skipTurn();
                    }
                } else {
                    done = fail(SYNTAX);
                }
                if (!done || !endStatement()) {
                    return false;
                }
                commands++;
            }
            return true;
        }

        private boolean readSize() {
            if (!wordIs("trunk")) {
                return fail(SYNTAX);
            }
            int columns = expectNumber(LEAST_SPAN, MOST_SPAN);
            if (columns == NONE) {
                return false;
            }
            int rows = expectNumber(LEAST_SPAN, MOST_SPAN);
            if (rows == NONE) {
                return false;
            }
            draft.clear(columns, rows);
            return endStatement();
        }

        private boolean readBlocks() {
            for (int read = 0; read <= MOST_INPUT && wordIs("block"); read++) {
                int column = expectNumber(0, draft.trunk.columns - 1);
                if (column == NONE) {
                    return false;
                }
                int row = expectNumber(0, draft.trunk.rows - 1);
                if (row == NONE) {
                    return false;
                }
                if (draft.trunk.cellAt(column, row) == BLOCKED) {
                    return fail(DUPLICATE);
                }
                draft.trunk.setCell(column, row, BLOCKED);
                if (!endStatement()) {
                    return false;
                }
            }
            return true;
        }

        /** Reads the straps that belong to nobody. */
        private boolean readFreeStraps() {
            for (int read = 0; read <= MOST_INPUT && wordIs("strap"); read++) {
                if (!readEdge()) {
                    return false;
                }
                if (draft.trunk.strapAt(edgeColumn, edgeRow, edgeSide)) {
                    return fail(DUPLICATE);
                }
                if (draft.trunk.isEdgeBlocked(edgeColumn, edgeRow, edgeSide)) {
                    return fail(ON_BLOCKED);
                }
                draft.trunk.setStrap(edgeColumn, edgeRow, edgeSide);
                if (!endStatement()) {
                    return false;
                }
            }
            return true;
        }

        private boolean readPlayer(int player) {
            if (!wordIs("player")) {
                return fail(SYNTAX);
            }
            if (!readName(player)) {
                return false;
            }
            for (int shape = 0; shape < SHAPES; shape++) {
                int supply = expectNumber(0, MOST_SUPPLY);
                if (supply == NONE) {
                    return false;
                }
                draft.playerOf(player).setSupply(shape, supply);
            }
            int straps = expectNumber(0, MOST_SUPPLY);
            if (straps == NONE) {
                return false;
            }
            draft.playerOf(player).straps = straps;
            return endStatement();
        }

        private boolean readName(int player) {
            nextToken();
            if (tokenKind != WORD || position - tokenStart > MOST_NAME) {
                return fail(SYNTAX);
            }
            for (int index = tokenStart; index < position; index++) {
                draft.playerOf(player).addLetter(byteAt(index));
            }
            return player == 0 || !draft.second.hasNameOf(draft.first) || fail(DUPLICATE);
        }

        private boolean readPiece() {
            nextToken();
            int shape = shapeOfToken();
            if (shape == NONE) {
                return fail(SYNTAX);
            }
            int rotation = expectNumber(0, ROTATIONS - 1);
            if (rotation == NONE) {
                return false;
            }
            int column = expectNumber(0, draft.trunk.columns - 1);
            if (column == NONE) {
                return false;
            }
            int row = expectNumber(0, draft.trunk.rows - 1);
            if (row == NONE) {
                return false;
            }
            footprint.turn(shape, rotation);
            footprint.moveTo(column, row);
            if (!draft.allowsPiece(footprint)) {
                return fail(IMPOSSIBLE);
            }
            draft.putPiece(footprint);
            return true;
        }

        private boolean readStrap() {
            if (!readEdge()) {
                return false;
            }
            if (!draft.allowsStrap(edgeColumn, edgeRow, edgeSide)) {
                return fail(IMPOSSIBLE);
            }
            draft.putStrap(edgeColumn, edgeRow, edgeSide);
            return true;
        }

        private boolean readEdge() {
            edgeColumn = expectNumber(0, draft.trunk.columns - 1);
            if (edgeColumn == NONE) {
                return false;
            }
            edgeRow = expectNumber(0, draft.trunk.rows - 1);
            if (edgeRow == NONE) {
                return false;
            }
            nextToken();
            if (!wordIs("right") && !wordIs("below")) {
                return fail(SYNTAX);
            }
            edgeSide = wordIs("right") ? RIGHT : BELOW;
            return draft.trunk.holdsEdge(edgeColumn, edgeRow, edgeSide) || fail(NO_EDGE);
        }

        private int shapeOfToken() {
            if (wordIs("bar")) {
                return BAR;
            }
            if (wordIs("elbow")) {
                return ELBOW;
            }
            if (wordIs("rod")) {
                return ROD;
            }
            if (wordIs("square")) {
                return SQUARE;
            }
            return wordIs("corner") ? CORNER : NONE;
        }

        /** Reads a number from low to high; NONE if there is another token, which is an error. */
        private int expectNumber(int low, int high) {
            nextToken();
            if (tokenKind != NUMBER) {
                fail(SYNTAX);
                return NONE;
            }
            if (number < low || number > high) {
                fail(RANGE);
                return NONE;
            }
            return number;
        }

        /** Reads the semicolon behind a statement, and the token after it. */
        private boolean endStatement() {
            nextToken();
            if (tokenKind != SEMICOLON) {
                return fail(SYNTAX);
            }
            nextToken();
            return true;
        }

        /** Reports an error at the present token; always false. */
        private boolean fail(int code) {
            errorCode = code;
            errorOffset = tokenStart;
            return false;
        }

        private void nextToken() {
            position = endOfRun(' ', ' ');
            tokenStart = position;
            int first = byteAt(position);
            if (first == NONE) {
                tokenKind = END;
            } else if (first >= 'a' && first <= 'z') {
                tokenKind = WORD;
                position = endOfRun('a', 'z');
            } else if (first >= '0' && first <= '9') {
                tokenKind = NUMBER;
                position = endOfRun('0', '9');
                number = valueOfToken();
            } else {
                tokenKind = first == ';' ? SEMICOLON : STRAY;
                position++;
            }
        }

        private int endOfRun(int low, int high) {
            int end = position;
            while (end < length && end < MOST_INPUT && bytes[end] >= low && bytes[end] <= high) {
                end++;
            }
            return end;
        }

        private int valueOfToken() {
            int value = 0;
            for (int index = tokenStart; index < position && index < MOST_INPUT; index++) {
                value = Math.min(value * 10 + bytes[index] - '0', TOO_LARGE);
            }
            return value;
        }

        private boolean wordIs(String word) {
            if (tokenKind != WORD || position - tokenStart != word.length()) {
                return false;
            }
            for (int index = 0; index < word.length(); index++) {
                if (byteAt(tokenStart + index) != word.charAt(index)) {
                    return false;
                }
            }
            return true;
        }

        private int byteAt(int index) {
            return index >= 0 && index < length && index < MOST_INPUT ? bytes[index] : NONE;
        }

        void clear() {
            length = 0;
        }
    }
}
