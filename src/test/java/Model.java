import java.util.ArrayDeque;
import java.util.ArrayList;
import java.util.Deque;
import java.util.HashMap;
import java.util.HashSet;
import java.util.List;
import java.util.Map;
import java.util.Set;
import java.util.regex.Matcher;
import java.util.regex.Pattern;

/** The document once more, word by word and without regard to speed, to compare TrunkDuel with. */
final class Model {
    static final int NONE = -1;
    private static final int[][][] SHAPES = {
        {{0, 0}, {1, 0}},
        {{0, 0}, {1, 0}, {0, 1}},
        {{0, 0}, {1, 0}, {2, 0}},
        {{0, 0}, {1, 0}, {0, 1}, {1, 1}},
        {{0, 0}, {1, 0}, {2, 0}, {0, 1}}};
    private static final List<String> SHAPE_WORDS = List.of("bar", "elbow", "rod", "square", "corner");
    private static final Pattern TOKEN = Pattern.compile("[a-z]+|[0-9]+|;|[^ ]", Pattern.DOTALL);

    /** All that undo and restore bring back. */
    static final class Position {
        int columns;
        int rows;
        Set<List<Integer>> blocked = new HashSet<>();
        Set<List<Integer>> straps = new HashSet<>();
        List<int[]> pieces = new ArrayList<>();
        Map<List<Integer>, Integer> covering = new HashMap<>();
        String[] names = {"", ""};
        int[][] supply = new int[2][5];
        int[] strapsLeft = new int[2];
        int[] score = new int[2];
        int toMove;
        int passes;

        Position copy() {
            Position other = new Position();
            other.columns = columns;
            other.rows = rows;
            other.blocked = new HashSet<>(blocked);
            other.straps = new HashSet<>(straps);
            other.pieces = new ArrayList<>(pieces);
            other.covering = new HashMap<>(covering);
            other.names = names.clone();
            other.supply = new int[][] {supply[0].clone(), supply[1].clone()};
            other.strapsLeft = strapsLeft.clone();
            other.score = score.clone();
            other.toMove = toMove;
            other.passes = passes;
            return other;
        }

        boolean over() {
            return passes >= 2;
        }

        boolean inside(int column, int row) {
            return column >= 0 && column < columns && row >= 0 && row < rows;
        }

        boolean edgeInside(int column, int row, int side) {
            return inside(column, row)
                    && inside(side == 0 ? column + 1 : column, side == 1 ? row + 1 : row);
        }

        int pieceAt(int column, int row) {
            return covering.getOrDefault(List.of(column, row), NONE);
        }

        private void cover(int[] piece) {
            for (List<Integer> cell : cells(piece[0], piece[1], piece[2], piece[3])) {
                covering.put(cell, pieces.size());
            }
            pieces.add(piece);
        }

        boolean blockedAt(int column, int row) {
            return blocked.contains(List.of(column, row));
        }

        boolean emptyAt(int column, int row) {
            return inside(column, row) && !blockedAt(column, row) && pieceAt(column, row) == NONE;
        }

        static List<List<Integer>> cells(int shape, int rotation, int column, int row) {
            List<List<Integer>> covered = new ArrayList<>();
            for (int[] offset : SHAPES[shape]) {
                int x = offset[0];
                int y = offset[1];
                for (int turn = 0; turn < rotation; turn++) {
                    int old = x;
                    x = -y;
                    y = old;
                }
                covered.add(List.of(column + x, row + y));
            }
            return covered;
        }

        private boolean bothIn(List<Integer> edge, List<List<Integer>> covered) {
            int column = edge.get(0);
            int row = edge.get(1);
            List<Integer> beyond = edge.get(2) == 0 ? List.of(column + 1, row) : List.of(column, row + 1);
            return covered.contains(List.of(column, row)) && covered.contains(beyond);
        }

        int misfit(int shape, int rotation, int column, int row) {
            List<List<Integer>> covered = cells(shape, rotation, column, row);
            int reason = 5;
            for (List<Integer> cell : covered) {
                int x = cell.get(0);
                int y = cell.get(1);
                if (!inside(x, y)) {
                    reason = Math.min(reason, 1);
                } else if (blockedAt(x, y)) {
                    reason = Math.min(reason, 2);
                } else if (pieceAt(x, y) != NONE) {
                    reason = Math.min(reason, 3);
                }
            }
            for (List<Integer> edge : straps) {
                if (bothIn(edge, covered)) {
                    reason = Math.min(reason, 4);
                }
            }
            return reason == 5 ? 0 : reason;
        }

        List<int[]> fitting(int shape) {
            List<int[]> found = new ArrayList<>();
            for (int rotation = 0; rotation < 4; rotation++) {
                for (int row = 0; row < rows; row++) {
                    for (int column = 0; column < columns; column++) {
                        if (misfit(shape, rotation, column, row) == 0) {
                            found.add(new int[] {shape, rotation, column, row});
                        }
                    }
                }
            }
            return found;
        }

        List<int[]> moves(int player) {
            List<int[]> found = new ArrayList<>();
            for (int shape = 0; shape < 5; shape++) {
                if (supply[player][shape] > 0) {
                    found.addAll(fitting(shape));
                }
            }
            return found;
        }

        int emptyIn(int row) {
            int count = 0;
            for (int column = 0; column < columns; column++) {
                count += emptyAt(column, row) ? 1 : 0;
            }
            return count;
        }

        int emptyCells() {
            int count = 0;
            for (int row = 0; row < rows; row++) {
                count += emptyIn(row);
            }
            return count;
        }

        int completeRows() {
            int count = 0;
            for (int row = 0; row < rows; row++) {
                count += emptyIn(row) == 0 ? 1 : 0;
            }
            return count;
        }

        int points(int shape, int rotation, int column, int row) {
            if (misfit(shape, rotation, column, row) != 0) {
                return NONE;
            }
            Position after = copy();
            after.cover(new int[] {shape, rotation, column, row, 0, 0});
            return SHAPES[shape].length + columns * (after.completeRows() - completeRows());
        }

        boolean mayPlace(int shape, int rotation, int column, int row) {
            return !over() && supply[toMove][shape] > 0 && misfit(shape, rotation, column, row) == 0;
        }

        int place(int shape, int rotation, int column, int row) {
            int scored = points(shape, rotation, column, row);
            cover(new int[] {shape, rotation, column, row, toMove, scored});
            supply[toMove][shape]--;
            score[toMove] += scored;
            passes = 0;
            toMove = 1 - toMove;
            return scored;
        }

        boolean mayFasten(int column, int row, int side) {
            int x = side == 0 ? column + 1 : column;
            int y = side == 1 ? row + 1 : row;
            boolean samePiece = pieceAt(column, row) != NONE && pieceAt(column, row) == pieceAt(x, y);
            return !over() && strapsLeft[toMove] > 0 && !straps.contains(List.of(column, row, side))
                    && !blockedAt(column, row) && !blockedAt(x, y) && !samePiece;
        }

        int fasten(int column, int row, int side) {
            straps.add(List.of(column, row, side));
            int left = --strapsLeft[toMove];
            passes = 0;
            toMove = 1 - toMove;
            return left;
        }

        boolean mayPass() {
            return !over() && moves(toMove).isEmpty();
        }

        int pass() {
            toMove = 1 - toMove;
            return ++passes;
        }

        int[] best() {
            int[] best = null;
            int most = -1;
            if (over()) {
                return null;
            }
            for (int[] move : moves(toMove)) {
                int scored = points(move[0], move[1], move[2], move[3]);
                if (scored > most) {
                    most = scored;
                    best = move;
                }
            }
            return best;
        }

        int bestStrapEffect() {
            if (over()) {
                return NONE;
            }
            int before = moves(1 - toMove).size();
            int most = 0;
            for (int row = 0; row < rows; row++) {
                for (int column = 0; column < columns; column++) {
                    for (int side = 0; side < 2; side++) {
                        if (edgeInside(column, row, side) && mayFasten(column, row, side)) {
                            Position after = copy();
                            after.straps.add(List.of(column, row, side));
                            most = Math.max(most, before - after.moves(1 - toMove).size());
                        }
                    }
                }
            }
            return most;
        }

        Set<List<Integer>> region(int column, int row) {
            Set<List<Integer>> region = new HashSet<>();
            if (!emptyAt(column, row)) {
                return region;
            }
            Deque<List<Integer>> open = new ArrayDeque<>();
            open.add(List.of(column, row));
            while (!open.isEmpty()) {
                List<Integer> cell = open.remove();
                int x = cell.get(0);
                int y = cell.get(1);
                if (!region.add(cell)) {
                    continue;
                }
                if (emptyAt(x + 1, y) && !straps.contains(List.of(x, y, 0))) {
                    open.add(List.of(x + 1, y));
                }
                if (emptyAt(x - 1, y) && !straps.contains(List.of(x - 1, y, 0))) {
                    open.add(List.of(x - 1, y));
                }
                if (emptyAt(x, y + 1) && !straps.contains(List.of(x, y, 1))) {
                    open.add(List.of(x, y + 1));
                }
                if (emptyAt(x, y - 1) && !straps.contains(List.of(x, y - 1, 1))) {
                    open.add(List.of(x, y - 1));
                }
            }
            return region;
        }

        Set<Set<List<Integer>>> regions() {
            Set<Set<List<Integer>>> all = new HashSet<>();
            for (int row = 0; row < rows; row++) {
                for (int column = 0; column < columns; column++) {
                    if (emptyAt(column, row)) {
                        all.add(region(column, row));
                    }
                }
            }
            return all;
        }

        Set<List<Integer>> dead() {
            Set<List<Integer>> dead = new HashSet<>();
            for (int row = 0; row < rows; row++) {
                for (int column = 0; column < columns; column++) {
                    if (emptyAt(column, row)) {
                        dead.add(List.of(column, row));
                    }
                }
            }
            for (int shape = 0; shape < 5; shape++) {
                for (int[] move : fitting(shape)) {
                    dead.removeAll(cells(move[0], move[1], move[2], move[3]));
                }
            }
            return dead;
        }
    }

    /** A wrong token. */
    private static final class Wrong extends Exception {
        private static final long serialVersionUID = 1L;
        final int code;

        Wrong(int code) {
            this.code = code;
        }
    }

    Position now = new Position();
    final Deque<Position> past = new ArrayDeque<>();
    final Position[] saved = new Position[2];
    String input = "";
    int errorCode = 0;
    int errorOffset = NONE;
    private Position draft;
    private Matcher tokens;
    private String token;
    private int offset;

    Model() {
        input = "trunk 5 4; block 4 0; block 0 3; strap 1 1 right; strap 2 2 below; "
                + "player ann 2 2 1 1 1 1; player bob 1 3 1 0 1 2;";
        load();
        past.clear();
    }

    void change(Position next) {
        past.addLast(now);
        if (past.size() > 8) {
            past.removeFirst();
        }
        now = next;
    }

    int load() {
        draft = new Position();
        return parse(true) == NONE ? NONE : now.emptyCells();
    }

    int play() {
        draft = now.copy();
        return parse(false);
    }

    private int parse(boolean isSetup) {
        int count = NONE;
        errorCode = 0;
        errorOffset = NONE;
        tokens = TOKEN.matcher(input);
        try {
            next();
            if (isSetup) {
                setup();
            }
            count = commands();
            change(draft);
        } catch (Wrong e) {
            errorCode = e.code;
            errorOffset = offset;
            count = NONE;
        }
        input = "";
        return count;
    }

    private void next() {
        boolean found = tokens.find();
        token = found ? tokens.group() : "";
        offset = found ? tokens.start() : input.length();
    }

    private void need(boolean holds, int code) throws Wrong {
        if (!holds) {
            throw new Wrong(code);
        }
    }

    private int number(int low, int high) throws Wrong {
        next();
        need(token.matches("[0-9]+"), 1);
        String digits = token.replaceFirst("^0+(?=.)", "");
        need(digits.length() < 5, 2);
        int value = Integer.parseInt(digits);
        need(value >= low && value <= high, 2);
        return value;
    }

    private void semicolon() throws Wrong {
        next();
        need(token.equals(";"), 1);
        next();
    }

    private int[] edge() throws Wrong {
        int column = number(0, draft.columns - 1);
        int row = number(0, draft.rows - 1);
        next();
        need(token.equals("right") || token.equals("below"), 1);
        int side = token.equals("right") ? 0 : 1;
        need(draft.edgeInside(column, row, side), 3);
        return new int[] {column, row, side};
    }

    private void setup() throws Wrong {
        need(token.equals("trunk"), 1);
        draft.columns = number(3, 8);
        draft.rows = number(3, 8);
        semicolon();
        while (token.equals("block")) {
            int column = number(0, draft.columns - 1);
            int row = number(0, draft.rows - 1);
            need(draft.blocked.add(List.of(column, row)), 4);
            semicolon();
        }
        while (token.equals("strap")) {
            int[] edge = edge();
            need(draft.straps.add(List.of(edge[0], edge[1], edge[2])), 4);
            int x = edge[0] + (edge[2] == 0 ? 1 : 0);
            int y = edge[1] + (edge[2] == 1 ? 1 : 0);
            need(!draft.blockedAt(edge[0], edge[1]) && !draft.blockedAt(x, y), 5);
            semicolon();
        }
        for (int player = 0; player < 2; player++) {
            need(token.equals("player"), 1);
            next();
            need(token.matches("[a-z]{1,6}"), 1);
            draft.names[player] = token;
            need(player == 0 || !draft.names[0].equals(token), 4);
            for (int shape = 0; shape < 5; shape++) {
                draft.supply[player][shape] = number(0, 9);
            }
            draft.strapsLeft[player] = number(0, 9);
            semicolon();
        }
    }

    private int commands() throws Wrong {
        int count = 0;
        while (!token.isEmpty()) {
            switch (token) {
                case "place" -> {
                    next();
                    int shape = SHAPE_WORDS.indexOf(token);
                    need(shape >= 0, 1);
                    int rotation = number(0, 3);
                    int column = number(0, draft.columns - 1);
                    int row = number(0, draft.rows - 1);
                    need(draft.mayPlace(shape, rotation, column, row), 6);
                    draft.place(shape, rotation, column, row);
                }
                case "strap" -> {
                    int[] edge = edge();
                    need(draft.mayFasten(edge[0], edge[1], edge[2]), 6);
                    draft.fasten(edge[0], edge[1], edge[2]);
                }
                case "pass" -> {
                    need(draft.mayPass(), 6);
                    draft.pass();
                }
                default -> throw new Wrong(1);
            }
            semicolon();
            count++;
        }
        return count;
    }
}
