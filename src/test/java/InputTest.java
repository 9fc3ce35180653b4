/** Promises 1 to 7: a new object, the input buffer, load() and play(). */
public final class InputTest {
    private static final String OPENING = "trunk 5 4; block 4 0; block 0 3; strap 1 1 right; "
            + "strap 2 2 below; player ann 2 2 1 1 1 1; player bob 1 3 1 0 1 2;";
    private static final String SMALL = "trunk 3 3;player a 1 1 1 1 1 1;player b 1 1 1 1 1 1;";

    public static void main(String[] args) {
        newObject();
        append();
        appendTakesBytesInOrder();
        truncateInput();
        load();
        loadReplacesAll();
        loadRunsCommands();
        play();
        playIsOneChange();
        errors();
        Check.finish("InputTest");
    }

    private static void newObject() {
        TrunkDuel duel = new TrunkDuel();
        Check.due("the opening", Check.view(duel), String.join("\n",
                "5x4",
                ". . . . # ",
                ". .|. . . ",
                ". . ._. . ",
                "# . . . . ",
                "ann 2 2 1 1 1 1 score 0",
                "bob 1 3 1 0 1 2 score 0",
                "to move 0 over false"));
        Check.due("errorCode()", duel.errorCode(), 0);
        Check.due("errorOffset()", duel.errorOffset(), TrunkDuel.NONE);
        Check.due("outputByte(0)", duel.outputByte(0), TrunkDuel.NONE);
        Check.badState("restore(0)", () -> duel.restore(0));
        Check.badState("restore(1)", () -> duel.restore(1));
        Check.badState("undo()", duel::undo);
        Check.badArgument("truncateInput(1)", () -> duel.truncateInput(1));
        Check.due("append", duel.append(0, 0, 0, 0, 0), 20);
        Check.due("undoableChanges()", duel.undoableChanges(), 0);
        Check.due("the opening loaded", Check.view(Check.loaded(OPENING)), Check.view(duel));
    }

    private static void append() {
        TrunkDuel duel = new TrunkDuel();
        for (int length = 20; length <= 600; length += 20) {
            Check.due("append to " + length, duel.append(0x20202020, 0, 0, 0, 0), length);
        }
        Check.due("append beyond 600", duel.append(0, 0, 0, 0, 0), TrunkDuel.NONE);
        Check.badArgument("truncateInput(601)", () -> duel.truncateInput(601));
        Check.due("truncateInput(581)", duel.truncateInput(581), 581);
        Check.due("append beyond 600 by one", duel.append(0, 0, 0, 0, 0), TrunkDuel.NONE);
        Check.due("truncateInput(581) again", duel.truncateInput(581), 581);
        duel.truncateInput(580);
        Check.due("append to just 600", duel.append(0, 0, 0, 0, 0), 600);
        duel.load();
        Check.due("append after load", duel.append(0, 0, 0, 0, 0), 20);

        TrunkDuel full = new TrunkDuel();
        Check.write(full, 0, SMALL + " ".repeat(600 - SMALL.length()));
        Check.due("append to a full buffer", full.append(-1, -1, -1, -1, -1), TrunkDuel.NONE);
        Check.due("load of 600 bytes", full.load(), 9);
    }

    private static void appendTakesBytesInOrder() {
        for (int place = 0; place < 20; place++) {
            int[] fours = {0x20202020, 0x20202020, 0x20202020, 0x20202020, 0x20202020};
            fours[place / 4] ^= 0xE0 << (24 - 8 * (place % 4));
            TrunkDuel duel = new TrunkDuel();
            duel.append(fours[0], fours[1], fours[2], fours[3], fours[4]);
            Check.due("play with byte 192 at " + place, duel.play(), TrunkDuel.NONE);
            Check.due("errorCode", duel.errorCode(), 1);
            Check.due("errorOffset", duel.errorOffset(), place);
        }
        TrunkDuel duel = new TrunkDuel();
        // "place bar 0 0 0;" and four spaces
        duel.append(0x706C6163, 0x65206261, 0x72203020, 0x3020303B, 0x20202020);
        Check.due("play", duel.play(), 1);
        Check.due("pieceAt(1, 0)", duel.pieceAt(1, 0), 0);
    }

    private static void truncateInput() {
        TrunkDuel duel = new TrunkDuel();
        Check.due("truncateInput(0) of nothing", duel.truncateInput(0), 0);
        Check.badArgument("truncateInput(-1)", () -> duel.truncateInput(-1));
        duel.append(0, 0, 0, 0, 0);
        Check.due("truncateInput(20)", duel.truncateInput(20), 20);
        Check.badArgument("truncateInput(21)", () -> duel.truncateInput(21));
        Check.badArgument("truncateInput(MIN)", () -> duel.truncateInput(Integer.MIN_VALUE));
        Check.badArgument("truncateInput(MAX)", () -> duel.truncateInput(Integer.MAX_VALUE));
        Check.due("truncateInput(20) still", duel.truncateInput(20), 20);
        Check.due("truncateInput(7)", duel.truncateInput(7), 7);
        Check.badArgument("truncateInput(8)", () -> duel.truncateInput(8));
        Check.due("append", duel.append(0, 0, 0, 0, 0), 27);
        duel.truncateInput(0);
        Check.write(duel, 0, "place bar 0 0 0;  place xyz");
        duel.truncateInput(18);
        Check.due("play of what is left", duel.play(), 1);
    }

    private static void load() {
        TrunkDuel duel = new TrunkDuel();
        Check.due("load", Check.load(duel, "trunk 8 3; block 7 2; block 0 0;"
                + "player player 0 1 2 3 4 5; player trunk 9 8 7 6 5 4;"), 22);
        Check.due("the state", Check.view(duel), String.join("\n",
                "8x3",
                "# . . . . . . . ",
                ". . . . . . . . ",
                ". . . . . . . # ",
                "player 0 1 2 3 4 5 score 0",
                "trunk 9 8 7 6 5 4 score 0",
                "to move 0 over false"));
        Check.due("the buffer is empty", duel.append(0, 0, 0, 0, 0), 20);
        Check.due("undo()", duel.undo(), 0);
        Check.due("undone", Check.view(duel), Check.view(new TrunkDuel()));
        Check.due("no spaces", Check.load(new TrunkDuel(), "trunk3 8;block0 0;strap2 0below;"
                + "player abcdef0 0 0 0 0 0;player abcdeg0 0 0 0 0 0;"), 23);
        Check.due("many spaces", Check.load(new TrunkDuel(), "   trunk  3   8 ; block 0  0 ; "
                + " strap 2 0 below ;player abcdef 0 0 0 0 0 0 ; player x 0 0 0 0 0 0 ;  "), 23);
        Check.due("leading zeros", Check.load(new TrunkDuel(), "trunk 000000000000003 0008;"
                + "player a 09 0 00 0 0 0;player b 0 0 0 0 0 0;"), 24);
        Check.due("all blocked", Check.load(new TrunkDuel(), "trunk 3 3;block 0 0;block 1 0;"
                + "block 2 0;block 0 1;block 1 1;block 2 1;block 0 2;block 1 2;block 2 2;"
                + "player a 1 1 1 1 1 1;player b 1 1 1 1 1 1;pass;pass;"), 0);
    }

    private static void loadReplacesAll() {
        TrunkDuel duel = Check.loaded("trunk 4 3;block 0 0;strap 1 1 below;player anna 1 1 1 1 1 2;"
                + "player b 2 2 2 2 2 2;place rod 0 1 0;strap 0 1 right;");
        duel.save(0);
        String first = Check.view(duel);
        Check.load(duel, SMALL);
        Check.due("nothing of the old state is left",
                Check.view(duel), Check.view(Check.loaded(SMALL)));
        duel.restore(0);
        Check.due("load keeps the saved states", Check.view(duel), first);
        Check.load(duel, SMALL.replace(";player a", ";strap 0 0 right;strap 0 0 below;player a"));
        Check.load(duel, SMALL);
        Check.due("no straps of the setup before are left", duel.strapCount(), 0);
    }

    private static void loadRunsCommands() {
        TrunkDuel duel = new TrunkDuel();
        Check.due("load", Check.load(duel,
                SMALL + "place square 0 0 0; strap 1 2 right;place bar 1 2 0;"), 3);
        Check.due("the state", Check.view(duel), String.join("\n",
                "3x3",
                "0 0 1 ",
                "0 0 1 ",
                ". .|. ",
                "3 0 0 0 0 4",
                "0 1 2 0 0 8",
                "a 0 1 1 0 1 1 score 12",
                "b 1 1 1 1 1 0 score 0",
                "to move 1 over false"));
        Check.due("undoableChanges()", duel.undoableChanges(), 1);
    }

    private static void play() {
        TrunkDuel duel = new TrunkDuel();
        Check.due("play of nothing", duel.play(), 0);
        Check.due("it is a change", duel.undoableChanges(), 1);
        Check.due("play of spaces", Check.play(duel, "    "), 0);
        Check.due("it is a change too", duel.undoableChanges(), 2);
        Check.due("play", Check.play(duel, "place square 0 0 0;place corner 1 3 0; strap 1 3 right ;"), 3);
        Check.due("the state", Check.view(duel), String.join("\n",
                "5x4",
                "0 0 1 1 # ",
                "0 0|. 1 . ",
                ". . ._1 . ",
                "# .|. . . ",
                "3 0 0 0 0 4",
                "4 1 3 0 1 9",
                "ann 2 2 1 0 1 0 score 4",
                "bob 1 3 1 0 0 2 score 9",
                "to move 1 over false"));
        Check.due("the buffer is empty", duel.append(0, 0, 0, 0, 0), 20);
        duel.truncateInput(0);
        Check.failsToPlay(duel, "place rod 0 2 3;place rod 0 0 0;", 6, 30);
        TrunkDuel passing = Check.loaded("trunk 3 3;player a 0 0 0 0 0 0;player b 0 0 0 0 0 0;");
        Check.due("passes", Check.play(passing, "pass;pass;"), 2);
        Check.due("isOver()", passing.isOver(), true);
        Check.failsToPlay(passing, "pass;", 6, 0);
    }

    private static void playIsOneChange() {
        TrunkDuel duel = new TrunkDuel();
        String before = Check.view(duel);
        Check.play(duel, "place bar 0 0 0;place bar 0 0 1;strap 0 2 right;");
        Check.due("undoableChanges()", duel.undoableChanges(), 1);
        Check.due("undo()", duel.undo(), 0);
        Check.due("undone", Check.view(duel), before);
    }

    private static void errors() {
        TrunkDuel duel = new TrunkDuel();
        Check.play(duel, "place bar 4 0 0;");
        Check.due("errorCode()", duel.errorCode(), 2);
        Check.due("errorOffset()", duel.errorOffset(), 10);
        Check.badState("undo()", duel::undo);
        duel.place(0, 0, 0, 0);
        duel.undo();
        duel.save(0);
        duel.restore(0);
        duel.append(0, 0, 0, 0, 0);
        Check.due("errorCode() stays", duel.errorCode(), 2);
        Check.due("errorOffset() stays", duel.errorOffset(), 10);
        duel.load();
        Check.due("errorCode() of the latest", duel.errorCode(), 1);
        Check.due("errorOffset() of the latest", duel.errorOffset(), 0);
        duel.play();
        Check.due("errorCode() without an error", duel.errorCode(), 0);
        Check.due("errorOffset() without an error", duel.errorOffset(), TrunkDuel.NONE);
        Check.play(duel, "x");
        Check.load(duel, SMALL);
        Check.due("errorCode() after a good load", duel.errorCode(), 0);
        Check.due("errorOffset() after a good load", duel.errorOffset(), TrunkDuel.NONE);
    }
}
