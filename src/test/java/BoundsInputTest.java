/** Promises 1 to 7: each sentence that names a bound, with both sides of it. */
public final class BoundsInputTest {
    private static final String SMALL = "trunk 3 3;player a 1 1 1 1 1 1;player b 1 1 1 1 1 1;";
    private static final int SPACES = 0x20202020;

    public static void main(String[] args) {
        newObject();
        emptyAtFirst();
        appendOrder();
        appendExtremes();
        appendAtTheBound();
        appendRefused();
        truncateRange();
        truncateRefused();
        loadEmptiesTheBuffer();
        loadReplaces();
        loadWithAnError();
        loadReturns();
        playEmptiesTheBuffer();
        playIsASingleChange();
        playWithAnError();
        playReturns();
        codeOfTheLatest();
        codeWithoutAnError();
        offsetOfTheLatest();
        offsetWithoutAnError();
        Check.finish("BoundsInputTest");
    }

    private static int appendSpaces(TrunkDuel duel) {
        return duel.append(SPACES, SPACES, SPACES, SPACES, SPACES);
    }

    private static TrunkDuel filled(int length) {
        TrunkDuel duel = new TrunkDuel();
        for (int start = 0; start < length; start += 20) {
            appendSpaces(duel);
        }
        duel.truncateInput(length);
        return duel;
    }

    /** Something in the buffer, an error reported, an output, changes and a saved state. */
    private static TrunkDuel used(String text) {
        TrunkDuel duel = Bounds.busy();
        duel.truncateInput(0);
        Check.write(duel, 0, text);
        return duel;
    }

    private static void newObject() {
        Check.sentence("1", "Creates the state that load() makes of the text \"trunk 5 4; ...\"");
        TrunkDuel duel = new TrunkDuel();
        Check.load(duel, "trunk 5 4; block 4 0; block 0 3; strap 1 1 right; strap 2 2 below; "
                + "player ann 2 2 1 1 1 1; player bob 1 3 1 0 1 2;");
        duel.undo();
        Check.due("all of it", Bounds.everything(duel), Bounds.everything(new TrunkDuel()));
        TrunkDuel loaded = new TrunkDuel();
        Check.load(loaded, "trunk 8 8;" + Bounds.RICH);
        Check.load(loaded, "trunk 5 4; block 4 0; block 0 3; strap 1 1 right; strap 2 2 below; "
                + "player ann 2 2 1 1 1 1; player bob 1 3 1 0 1 2;");
        Check.due("the state", Check.view(loaded), Check.view(new TrunkDuel()));
    }

    private static void emptyAtFirst() {
        Check.sentence("1", "with an empty input buffer, no reported error, an empty output, no saved state and"
                + " no change to undo");
        TrunkDuel duel = new TrunkDuel();
        Check.due("truncateInput(0)", duel.truncateInput(0), 0);
        Check.badArgument("truncateInput(1)", () -> duel.truncateInput(1));
        Check.due("errorCode()", duel.errorCode(), 0);
        Check.due("errorOffset()", duel.errorOffset(), Bounds.NONE);
        Check.due("outputByte(0)", duel.outputByte(0), Bounds.NONE);
        Check.badState("restore(0)", () -> duel.restore(0));
        Check.badState("restore(1)", () -> duel.restore(1));
        Check.due("undoableChanges()", duel.undoableChanges(), 0);
        Check.badState("undo()", duel::undo);
        Check.due("play() of the empty buffer", duel.play(), 0);
        Check.due("load() of the empty buffer", new TrunkDuel().load(), Bounds.NONE);
    }

    private static void appendOrder() {
        Check.sentence("2", "the four bytes of each parameter, the most significant byte first");
        // "place bar 3 1 2;    " in five parameters
        TrunkDuel duel = new TrunkDuel();
        Check.due("append()", duel.append(0x706C6163, 0x65206261, 0x72203320, 0x3120323B, SPACES), 20);
        Check.due("play()", duel.play(), 1);
        Check.due("pieceRotation(0)", duel.pieceRotation(0), 3);
        Check.due("pieceColumn(0)", duel.pieceColumn(0), 1);
        Check.due("pieceRow(0)", duel.pieceRow(0), 2);
        for (int place = 0; place < 20; place++) {
            int[] fours = {SPACES, SPACES, SPACES, SPACES, SPACES};
            fours[place / 4] ^= 1 << (24 - 8 * (place % 4));
            TrunkDuel one = new TrunkDuel();
            one.append(fours[0], fours[1], fours[2], fours[3], fours[4]);
            Check.due("play() with byte 33 at " + place, one.play(), Bounds.NONE);
            Check.due("errorOffset()", one.errorOffset(), place);
        }
    }

    private static void appendExtremes() {
        Check.sentence("2", "Appends 20 bytes to the input buffer: the four bytes of each parameter");
        for (int four : new int[] {Bounds.MIN, Bounds.MAX, -1, 0, 1, 0x80808080, 0x7F7F7F7F}) {
            for (int place = 0; place < 5; place++) {
                TrunkDuel duel = new TrunkDuel();
                int[] fours = {SPACES, SPACES, SPACES, SPACES, SPACES};
                fours[place] = four;
                Check.due("append() of " + four, duel.append(fours[0], fours[1], fours[2], fours[3], fours[4]), 20);
                Check.due("play()", duel.play(), Bounds.NONE);
                Check.due("errorCode()", duel.errorCode(), 1);
                Check.due("errorOffset()", duel.errorOffset(), place * 4);
            }
        }
    }

    private static void appendAtTheBound() {
        Check.sentence("2", "Returns the new length of the input buffer; NONE, with no change, if it would exceed 600.");
        for (int length = 0; length <= 580; length += 20) {
            Check.due("append() at " + length, appendSpaces(filled(length)), length + 20);
        }
        for (int length : new int[] {1, 19, 579, 580}) {
            Check.due("append() at " + length, appendSpaces(filled(length)), length + 20);
        }
        for (int length : new int[] {581, 582, 599, 600}) {
            Check.due("append() at " + length, appendSpaces(filled(length)), Bounds.NONE);
        }
    }

    private static void appendRefused() {
        Check.sentence("2", "NONE, with no change, if it would exceed 600");
        for (int length : new int[] {581, 600}) {
            Bounds.quiet("append() at " + length, Bounds.NONE, () -> filled(length),
                    duel -> duel.append(-1, -1, -1, -1, -1));
            TrunkDuel duel = filled(length);
            duel.append(-1, -1, -1, -1, -1);
            Check.due("truncateInput() to the old length", duel.truncateInput(length), length);
            Check.badArgument("truncateInput() to one more", () -> duel.truncateInput(length + 1));
            Check.due("play() of what was there", duel.play(), 0);
        }
        String text = " ".repeat(581 - SMALL.length()) + SMALL;
        TrunkDuel kept = new TrunkDuel();
        Check.write(kept, 0, text);
        Check.due("append()", appendSpaces(kept), Bounds.NONE);
        Check.due("load() of what was there", kept.load(), 9);
        Check.due("append() behind it", appendSpaces(kept), 20);
    }

    private static void truncateRange() {
        Check.sentence("3", "`length`: the new length, 0 to the current length");
        for (int length : new int[] {0, 1, 20, 599, 600}) {
            Check.due("truncateInput(" + length + ") of as many", filled(length).truncateInput(length), length);
            Check.due("truncateInput(0) of " + length, filled(length).truncateInput(0), 0);
        }
        for (int length : new int[] {1, 20, 599}) {
            TrunkDuel duel = filled(600);
            Check.due("truncateInput(" + length + ") of 600", duel.truncateInput(length), length);
            Check.badArgument("truncateInput() back to one more", () -> duel.truncateInput(length + 1));
            Check.due("append() behind it", appendSpaces(duel), length == 599 ? Bounds.NONE : length + 20);
        }
        TrunkDuel cut = new TrunkDuel();
        Check.write(cut, 0, "place bar 0 0 0;x");
        cut.truncateInput(16);
        Check.due("play() of what is left", cut.play(), 1);
        TrunkDuel again = new TrunkDuel();
        Check.write(again, 0, "place bar 0 0 0;x");
        again.truncateInput(16);
        appendSpaces(again);
        Check.due("play() of what came in place of the rest", again.play(), 1);
    }

    private static void truncateRefused() {
        Check.sentence("3", "Throws IllegalArgumentException if length is out of range");
        for (int length : new int[] {0, 1, 20, 600}) {
            for (int bad : Bounds.outside(0, length)) {
                if (bad < 0 || bad > length) {
                    Bounds.refused("truncateInput(" + bad + ") of " + length, Bounds.ARGUMENT,
                            () -> filled(length), duel -> duel.truncateInput(bad));
                }
            }
        }
        for (int bad : new int[] {-1, 19, Bounds.MIN, Bounds.MAX}) {
            Bounds.refused("truncateInput(" + bad + ")", Bounds.ARGUMENT, Bounds::busy, duel -> duel.truncateInput(bad));
        }
    }

    private static void loadEmptiesTheBuffer() {
        Check.sentence("4", "Parses the input buffer as a setup and empties the buffer in any case.");
        for (String text : new String[] {SMALL, "", "x", "trunk 9 9;", SMALL + "pass;", SMALL + "pass"}) {
            TrunkDuel duel = used(text);
            duel.load();
            Check.badArgument("truncateInput(1) behind load() of " + text, () -> duel.truncateInput(1));
            Check.due("append() behind load() of " + text, appendSpaces(duel), 20);
        }
    }

    private static void loadReplaces() {
        Check.sentence("4", "Without an error the state is replaced.");
        TrunkDuel duel = Bounds.busy();
        duel.truncateInput(0);
        Check.due("load()", Check.load(duel, SMALL), 9);
        Check.due("the state", Check.view(duel), Check.view(Check.loaded(SMALL)));
        TrunkDuel over = Bounds.over();
        Check.load(over, SMALL);
        Check.due("the state behind a game that was over", Check.view(over), Check.view(Check.loaded(SMALL)));
        Check.due("misfits of what is gone", over.misfitReason(3, 0, 0, 0), 0);
        TrunkDuel twice = Check.loaded("trunk 4 4;block 3 3;strap 0 0 right;"
                + "player abc 9 9 9 9 9 9;player bcd 0 0 0 0 0 1;place rod 0 1 1;pass;");
        Check.load(twice, "trunk 3 3;" + Bounds.POOR + "pass;pass;");
        Check.load(twice, SMALL);
        Check.due("the state behind three load()s", Check.view(twice), Check.view(Check.loaded(SMALL)));
    }

    private static void loadWithAnError() {
        Check.sentence("4", "With an error the state does not change.");
        for (String text : new String[] {"", "x", SMALL + "x", SMALL + "place bar 0 0 0;pass;", SMALL + "place bar 0 0 0",
            "trunk 3 3;block 0 0;block 0 0;", "trunk 8 8;block 0 0;strap 1 1 below;player a 1 1 1 1 1 1;"}) {
            TrunkDuel duel = used(text);
            int changes = duel.undoableChanges();
            String before = Check.view(duel);
            Check.due("load() of " + text, duel.load(), Bounds.NONE);
            Check.due("the state", Check.view(duel), before);
            Check.due("undoableChanges()", duel.undoableChanges(), changes);
            Check.due("undo()", duel.undo(), changes - 1);
            Check.due("playerToMove() behind it", duel.playerToMove(), 0);
        }
    }

    private static void loadReturns() {
        Check.sentence("4", "Returns the number of empty cells of the trunk afterwards; NONE if there is an error.");
        String players = "player a 0 0 3 0 0 0;player b 0 0 3 0 0 0;";
        Check.due("load() of 3 x 3", Check.load(new TrunkDuel(), "trunk 3 3;" + players), 9);
        Check.due("load() of 8 x 8", Check.load(new TrunkDuel(), "trunk 8 8;" + players), 64);
        Check.due("load() with one block", Check.load(new TrunkDuel(), "trunk 8 8;block 7 7;" + players), 63);
        Check.due("load() with one rod", Check.load(new TrunkDuel(), "trunk 3 3;" + players + "place rod 0 0 0;"), 6);
        Check.due("load() of a full trunk", Check.load(new TrunkDuel(), "trunk 3 3;" + players
                + "place rod 0 0 0;place rod 0 0 1;place rod 0 0 2;"), 0);
        Check.due("load() of an error", Check.load(new TrunkDuel(), "trunk 3 2;"), Bounds.NONE);
    }

    private static void playEmptiesTheBuffer() {
        Check.sentence("5", "Parses the input buffer as a script and empties the buffer in any case.");
        for (String text : new String[] {"", "x", "place rod 0 2 3;", "place bar 0 0 0;", "pass"}) {
            TrunkDuel duel = used(text);
            duel.play();
            Check.badArgument("truncateInput(1) behind play() of " + text, () -> duel.truncateInput(1));
            Check.due("append() behind play() of " + text, appendSpaces(duel), 20);
        }
    }

    private static void playIsASingleChange() {
        Check.sentence("5", "Without an error the commands are executed as a single change.");
        String[] texts = {"", "place rod 0 2 3;", "place rod 0 2 3;place bar 1 2 1;strap 0 2 right;"};
        TrunkDuel still = used("");
        String unmoved = Check.view(still);
        still.play();
        Check.due("the state behind play() of nothing", Check.view(still), unmoved);
        for (String text : texts) {
            TrunkDuel duel = used(text);
            int changes = duel.undoableChanges();
            String before = Check.view(duel);
            duel.play();
            Check.due("undoableChanges() behind play() of " + text, duel.undoableChanges(), changes + 1);
            Check.due("undo()", duel.undo(), changes);
            Check.due("the state before", Check.view(duel), before);
        }
    }

    private static void playWithAnError() {
        Check.sentence("5", "With an error the state does not change (commands before the error have no effect).");
        for (String text : new String[] {"x", "place rod 0 2 3;x", "place rod 0 2 3;place rod 0 2 3;", "strap 0 2 right;pass;",
            "place rod 0 2 3", "strap 0 2 right ;place bar 1 2 1;place bar 0 4 0;"}) {
            TrunkDuel duel = used(text);
            int changes = duel.undoableChanges();
            String before = Check.view(duel);
            Check.due("play() of " + text, duel.play(), Bounds.NONE);
            Check.due("the state", Check.view(duel), before);
            Check.due("undoableChanges()", duel.undoableChanges(), changes);
            Check.due("a command behind it", duel.place(2, 0, 2, 3), 3);
        }
    }

    private static void playReturns() {
        Check.sentence("5", "Returns the number of commands; NONE if there is an error.");
        Check.due("play() of none", Check.play(new TrunkDuel(), ""), 0);
        Check.due("play() of one", Check.play(new TrunkDuel(), "place bar 0 0 0;"), 1);
        Check.due("play() of two", Check.play(new TrunkDuel(), "place bar 0 0 0;place bar 0 0 1;"), 2);
        StringBuilder most = new StringBuilder();
        for (int strap = 0; strap < 18; strap++) {
            most.append("strap ").append(strap % 7).append(' ').append(strap / 7).append(" right;");
        }
        Check.due("play() of all straps", Check.play(Bounds.with("trunk 8 8;", Bounds.RICH), most.toString()), 18);
        Check.due("play() of one strap more", Check.play(Bounds.with("trunk 8 8;", Bounds.RICH),
                most + "strap 0 7 right;"), Bounds.NONE);
        Check.due("play() of an error", Check.play(new TrunkDuel(), "pass;"), Bounds.NONE);
        TrunkDuel often = new TrunkDuel();
        Check.due("the first play()", Check.play(often, "place bar 0 0 0;place bar 0 0 1;"), 2);
        Check.due("a play() with an error", Check.play(often, "place bar 0 0 2;place bar 0 0 1;"), Bounds.NONE);
        Check.due("the play() behind it", Check.play(often, "place bar 0 0 2;"), 1);
        Check.due("the play() of nothing behind it", Check.play(often, ""), 0);
    }

    private static void codeOfTheLatest() {
        Check.sentence("6", "Returns the error code of the latest call of load() or play().");
        TrunkDuel duel = new TrunkDuel();
        String[] texts = {"x", "trunk 2 3;", "trunk 3 3;strap 2 0 right;", "trunk 3 3;block 0 0;block 0 0;",
            "trunk 3 3;block 0 0;strap 0 0 right;", SMALL + "pass;"};
        for (int code = 1; code <= 6; code++) {
            Check.due("load() of " + texts[code - 1], Check.load(duel, texts[code - 1]), Bounds.NONE);
            Check.due("errorCode()", duel.errorCode(), code);
        }
        Check.play(duel, "x");
        Check.due("errorCode() of a play() behind a load()", duel.errorCode(), 1);
        Check.load(duel, "trunk 2 3;");
        Check.due("errorCode() of a load() behind a play()", duel.errorCode(), 2);
        Check.badState("undo()", duel::undo);
        Check.badArgument("truncateInput(1)", () -> duel.truncateInput(1));
        appendSpaces(duel);
        duel.place(0, 0, 0, 0);
        Check.due("errorCode() behind other calls", duel.errorCode(), 2);
    }

    private static void codeWithoutAnError() {
        Check.sentence("6", "Returns the code, 1 to 6; 0 if there was no error or no such call.");
        TrunkDuel duel = new TrunkDuel();
        Check.due("errorCode() without a call", duel.errorCode(), 0);
        Check.play(duel, "");
        Check.due("errorCode() behind a good play()", duel.errorCode(), 0);
        Check.play(duel, "x");
        Check.play(duel, "");
        Check.due("errorCode() behind a good play() behind a bad one", duel.errorCode(), 0);
        Check.play(duel, "x");
        Check.load(duel, SMALL);
        Check.due("errorCode() behind a good load() behind a bad play()", duel.errorCode(), 0);
    }

    private static void offsetOfTheLatest() {
        Check.sentence("7", "Returns the error offset of the latest call of load() or play().");
        TrunkDuel duel = new TrunkDuel();
        for (int offset : new int[] {0, 1, 599, 600, 7, 0}) {
            Check.play(duel, " ".repeat(offset) + (offset < 600 ? "x" : ""));
            Check.due("errorOffset() of play()", duel.errorOffset(), offset < 600 ? offset : Bounds.NONE);
            Check.load(duel, " ".repeat(offset) + (offset < 600 ? "x" : ""));
            Check.due("errorOffset() of load()", duel.errorOffset(), offset);
        }
        Check.badState("undo() of nothing", () -> new TrunkDuel().undo());
        duel.undo();
        Check.due("errorOffset() behind undo()", duel.errorOffset(), 0);
    }

    private static void offsetWithoutAnError() {
        Check.sentence("7", "Returns the offset; NONE if errorCode() is 0.");
        TrunkDuel duel = new TrunkDuel();
        Check.due("errorOffset() without a call", duel.errorOffset(), Bounds.NONE);
        Check.play(duel, "x");
        Check.due("errorOffset() of an error", duel.errorOffset(), 0);
        Check.play(duel, "");
        Check.due("errorOffset() behind a good play()", duel.errorOffset(), Bounds.NONE);
        Check.load(duel, "");
        Check.due("errorOffset() of an error", duel.errorOffset(), 0);
        Check.load(duel, SMALL);
        Check.due("errorOffset() behind a good load()", duel.errorOffset(), Bounds.NONE);
    }
}
