/** Counts wrong answers and prints each; every test ends by finish(). */
final class Check {
    private static int wrong = 0;
    private static int asked = 0;
    private static String sentence = "";

    private Check() {
    }

    /** The sentence of the document that the checks from here on are about; reports show it. */
    static void sentence(String where, String words) {
        sentence = "[" + where + ": " + words + "] ";
    }

    static void due(String call, long got, long want) {
        asked++;
        if (got != want) {
            report(call + " answered " + got + ", due is " + want);
        }
    }

    static void due(String call, boolean got, boolean want) {
        due(call, got ? 1L : 0L, want ? 1L : 0L);
    }

    static void dueExactly(String call, double got, double want) {
        asked++;
        if (Double.compare(got, want) != 0) {
            report(call + " answered " + got + ", due is " + want);
        }
    }

    static void due(String call, String got, String want) {
        asked++;
        if (!got.equals(want)) {
            report(call + " answered\n" + got + "\ndue is\n" + want);
        }
    }

    /** The class must be the very one: the machine's own exceptions are classes below it. */
    static void throwsExactly(String call, Class<? extends RuntimeException> type, Runnable run) {
        asked++;
        try {
            run.run();
            report(call + " threw nothing, due is " + type.getSimpleName());
        } catch (RuntimeException e) {
            if (e.getClass() != type) {
                report(call + " threw " + e + ", due is " + type.getSimpleName());
            }
        }
    }

    static void badArgument(String call, Runnable run) {
        throwsExactly(call, IllegalArgumentException.class, run);
    }

    static void outOfBounds(String call, Runnable run) {
        throwsExactly(call, IndexOutOfBoundsException.class, run);
    }

    static void badState(String call, Runnable run) {
        throwsExactly(call, IllegalStateException.class, run);
    }

    private static void report(String text) {
        wrong++;
        if (wrong <= 50) {
            System.out.println(sentence + text);
        }
    }

    static void finish(String test) {
        System.out.println(test + ": " + asked + " answers, " + wrong + " wrong");
        if (wrong != 0) {
            System.exit(1);
        }
    }

    // ---- texts

    /** Appends a text behind what is in the buffer, whose length must be given. */
    static void write(TrunkDuel duel, int before, String text) {
        for (int start = 0; start < text.length(); start += 20) {
            duel.append(four(text, start), four(text, start + 4), four(text, start + 8),
                    four(text, start + 12), four(text, start + 16));
        }
        duel.truncateInput(before + text.length());
    }

    private static int four(String text, int start) {
        int value = 0;
        for (int index = start; index < start + 4; index++) {
            value = value << 8 | (index < text.length() ? text.charAt(index) : ' ');
        }
        return value;
    }

    static int load(TrunkDuel duel, String text) {
        duel.truncateInput(0);
        write(duel, 0, text);
        return duel.load();
    }

    static int play(TrunkDuel duel, String text) {
        duel.truncateInput(0);
        write(duel, 0, text);
        return duel.play();
    }

    static TrunkDuel loaded(String text) {
        TrunkDuel duel = new TrunkDuel();
        int got = load(duel, text);
        if (got == TrunkDuel.NONE) {
            report("not loaded, code " + duel.errorCode() + " at " + duel.errorOffset() + ": " + text);
        }
        return duel;
    }

    static void failsToLoad(String text, int code, int offset) {
        TrunkDuel duel = new TrunkDuel();
        String before = view(duel);
        int changes = duel.undoableChanges();
        due("load of " + text, load(duel, text), TrunkDuel.NONE);
        due("errorCode of " + text, duel.errorCode(), code);
        due("errorOffset of " + text, duel.errorOffset(), offset);
        due("the state after " + text, view(duel), before);
        due("undoableChanges after " + text, duel.undoableChanges(), changes);
        due("the buffer after " + text, duel.append(0, 0, 0, 0, 0), 20);
    }

    static void failsToPlay(TrunkDuel duel, String text, int code, int offset) {
        String before = view(duel);
        int changes = duel.undoableChanges();
        due("play of " + text, play(duel, text), TrunkDuel.NONE);
        due("errorCode of " + text, duel.errorCode(), code);
        due("errorOffset of " + text, duel.errorOffset(), offset);
        due("the state after " + text, view(duel), before);
        due("undoableChanges after " + text, duel.undoableChanges(), changes);
        due("the buffer after " + text, duel.append(0, 0, 0, 0, 0), 20);
        duel.truncateInput(0);
    }

    /** All that undo() and restore() bring back. */
    static String view(TrunkDuel duel) {
        StringBuilder seen = new StringBuilder();
        seen.append(duel.columns()).append('x').append(duel.rows()).append('\n');
        for (int row = 0; row < duel.rows(); row++) {
            for (int column = 0; column < duel.columns(); column++) {
                viewCell(duel, column, row, seen);
            }
            seen.append('\n');
        }
        for (int piece = 0; piece < duel.pieceCount(); piece++) {
            seen.append(duel.pieceShape(piece)).append(' ').append(duel.pieceRotation(piece))
                    .append(' ').append(duel.pieceColumn(piece)).append(' ')
                    .append(duel.pieceRow(piece)).append(' ').append(duel.pieceOwner(piece))
                    .append(' ').append(duel.piecePoints(piece)).append('\n');
        }
        for (int player = 0; player < 2; player++) {
            for (int index = 0; duel.nameByte(player, index) != TrunkDuel.NONE; index++) {
                seen.append((char) duel.nameByte(player, index));
            }
            for (int shape = 0; shape < 5; shape++) {
                seen.append(' ').append(duel.supply(player, shape));
            }
            seen.append(' ').append(duel.strapsLeft(player)).append(" score ")
                    .append(duel.score(player)).append('\n');
        }
        seen.append("to move ").append(duel.playerToMove()).append(" over ").append(duel.isOver());
        return seen.toString();
    }

    private static void viewCell(TrunkDuel duel, int column, int row, StringBuilder seen) {
        if (duel.isBlocked(column, row)) {
            seen.append('#');
        } else if (duel.pieceAt(column, row) == TrunkDuel.NONE) {
            seen.append('.');
        } else {
            seen.append(duel.pieceAt(column, row));
        }
        boolean right = column + 1 < duel.columns() && duel.hasStrap(column, row, TrunkDuel.RIGHT);
        boolean below = row + 1 < duel.rows() && duel.hasStrap(column, row, TrunkDuel.BELOW);
        seen.append(right ? below ? '+' : '|' : below ? '_' : ' ');
    }
}
