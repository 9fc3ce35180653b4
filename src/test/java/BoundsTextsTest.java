/** The sentences of «Terms» 5 that name a bound: tokens, rules, error offsets and error codes. */
public final class BoundsTextsTest {
    private static final String TRUNK = "trunk 3 4;";
    private static final String A = "player a 1 1 1 1 1 1;";
    private static final String B = "player b 1 1 1 1 1 1;";
    private static final String SETUP = TRUNK + A + B;
    // Numbers that are 3 to a machine that keeps 8, 16, 32 or 64 bits of them.
    private static final String[] WRAPPED_THREES = {
        "259", "65539", "4294967299", "18446744073709551619", "1" + "0".repeat(40) + "3"};

    public static void main(String[] args) {
        bufferOf600();
        noRepetitions();
        manyRepetitions();
        orderOfTheParts();
        words();
        numbers();
        bytesOfNoToken();
        spaces();
        names();
        keywordsAsNames();
        strapsOfNobody();
        commandsCallTheMethods();
        whenACommandIsExecuted();
        parsingStops();
        errorOffsets();
        textsThatEndTooEarly();
        lowestCode();
        codeOne();
        codeTwo();
        codeThree();
        codeFour();
        codeFive();
        codeSix();
        Check.finish("BoundsTextsTest");
    }

    /** The error is at the mark, which is no part of the text. */
    private static void setupFails(int code, String marked) {
        int offset = marked.indexOf('^');
        Check.failsToLoad(marked.substring(0, offset) + marked.substring(offset + 1), code, offset);
    }

    private static void scriptFails(int code, String marked) {
        int offset = marked.indexOf('^');
        Check.failsToPlay(new TrunkDuel(), marked.substring(0, offset) + marked.substring(offset + 1), code, offset);
    }

    private static TrunkDuel setupStands(String text) {
        TrunkDuel duel = new TrunkDuel();
        Check.due("load of " + text, Check.load(duel, text) != Bounds.NONE, true);
        Check.due("errorCode()", duel.errorCode(), 0);
        Check.due("errorOffset()", duel.errorOffset(), Bounds.NONE);
        return duel;
    }

    private static void scriptStands(int commands, TrunkDuel duel, String text) {
        Check.due("play of " + text, Check.play(duel, text), commands);
        Check.due("errorCode()", duel.errorCode(), 0);
        Check.due("errorOffset()", duel.errorOffset(), Bounds.NONE);
    }

    private static void bufferOf600() {
        Check.sentence("Terms 5", "The input buffer holds at most 600 bytes.");
        String padding = " ".repeat(600 - SETUP.length());
        setupStands(SETUP + padding);
        setupStands(padding + SETUP);
        setupFails(1, SETUP + padding.substring(1) + "^x");
        setupFails(1, padding.substring(1) + SETUP + "^x");
        setupFails(1, " ".repeat(600) + "^");
        setupFails(1, TRUNK + " ".repeat(600 - TRUNK.length()) + "^");
        scriptStands(0, new TrunkDuel(), " ".repeat(600));
        scriptStands(1, new TrunkDuel(), " ".repeat(584) + "place bar 0 0 0;");
        scriptFails(1, " ".repeat(585) + "place bar 0 0 0^");
        scriptFails(1, "^" + "x".repeat(600));
        scriptFails(1, "^" + ";".repeat(600));
        scriptFails(2, "place bar ^" + "9".repeat(590));
        scriptFails(1, "place bar " + "0".repeat(590) + "^");
    }

    private static void noRepetitions() {
        Check.sentence("Terms 5", "Braces mean any number of repetitions.");
        TrunkDuel bare = setupStands(SETUP);
        Check.due("emptyCells() without blocks", bare.emptyCells(), 12);
        Check.due("strapCount() without edges", bare.strapCount(), 0);
        Check.due("playerToMove() without commands", bare.playerToMove(), 0);
        setupStands(TRUNK + "block 0 0;" + A + B);
        setupStands(TRUNK + "strap 0 0 right;" + A + B);
        setupStands(SETUP + "place bar 0 0 0;");
        scriptStands(0, new TrunkDuel(), "");
        scriptStands(1, new TrunkDuel(), "place bar 0 0 0;");
    }

    private static void manyRepetitions() {
        Check.sentence("Terms 5", "Braces mean any number of repetitions.");
        StringBuilder blocks = new StringBuilder("trunk 6 6;");
        StringBuilder edges = new StringBuilder("trunk 6 6;");
        for (int cell = 0; cell < 36; cell++) {
            blocks.append("block").append(cell % 6).append(' ').append(cell / 6).append(';');
            if (cell < 25) {
                edges.append("strap").append(cell % 5).append(' ').append(cell / 5).append("right;");
            }
        }
        Check.due("all 36 blocks", setupStands(blocks + A + B).emptyCells(), 0);
        Check.due("25 edges", setupStands(edges + A + B).strapCount(), 25);
        TrunkDuel rich = Bounds.with("trunk 8 8;", Bounds.RICH);
        StringBuilder script = new StringBuilder();
        for (int bar = 0; bar < 18; bar++) {
            script.append("place bar 0 ").append(bar % 4 * 2).append(' ').append(bar / 4).append(';');
        }
        scriptStands(18, rich, script.toString());
        Check.due("pieceCount()", rich.pieceCount(), 18);
        Check.due("undoableChanges()", rich.undoableChanges(), 2);
        Check.failsToPlay(endless(), "pass;".repeat(120), 6, 10);
    }

    private static TrunkDuel endless() {
        return Bounds.with("trunk 3 3;", Bounds.POOR);
    }

    private static void orderOfTheParts() {
        Check.sentence("Terms 5", "setup = \"trunk\" columns rows \";\" { \"block\" column row \";\" }"
                + " { edge \";\" } player player { command \";\" }");
        setupStands(TRUNK + "block 0 0;strap 1 0 right;" + A + B + "strap 0 1 right;");
        setupFails(1, "^block 0 0;" + SETUP);
        setupFails(1, TRUNK + "strap 1 0 right;^block 0 0;" + A + B);
        setupFails(1, TRUNK + A + "^block 0 0;" + B);
        setupFails(1, TRUNK + A + "^strap 1 0 right;" + B);
        setupFails(1, TRUNK + "^place bar 0 0 0;" + A + B);
        setupFails(1, TRUNK + A + "^place bar 0 0 0;" + B);
        setupFails(1, TRUNK + A + "^pass;" + B);
        setupFails(1, TRUNK + A + "^");
        setupFails(1, SETUP + "^player c 1 1 1 1 1 1;");
        setupFails(1, SETUP + "^block 0 0;");
        setupFails(1, SETUP + "^trunk 3 4;");
        scriptFails(1, "^trunk 3 4;");
        scriptFails(1, "^block 0 0;");
        scriptFails(1, "^player c 1 1 1 1 1 1;");
        setupFails(1, TRUNK + "^;" + A + B);
        setupFails(1, SETUP + "^;");
        scriptFails(1, "^;");
        scriptFails(1, "place bar 0 0 0;^;");
    }

    private static void words() {
        Check.sentence("Terms 5", "A word is a maximal run of the letters a to z.");
        setupFails(1, "^trunka 3 4;" + A + B);
        setupFails(1, "^atrunk 3 4;" + A + B);
        setupFails(1, "^trunkz3 4;" + A + B);
        setupFails(1, "^trun");
        setupFails(1, TRUNK + "^playera 1 1 1 1 1 1;" + B);
        setupFails(1, TRUNK + "strap 0 0 ^rightbelow;" + A + B);
        setupFails(1, "^tr unk 3 4;" + A + B);
        setupStands(TRUNK + "player az 1 1 1 1 1 1;player za 1 1 1 1 1 1;");
        setupFails(1, TRUNK + "player ^`a 1 1 1 1 1 1;" + B);
        setupFails(1, TRUNK + "player a^` 1 1 1 1 1 1;" + B);
        setupFails(1, TRUNK + "player z^{ 1 1 1 1 1 1;" + B);
        setupFails(1, TRUNK + "player ^A 1 1 1 1 1 1;" + B);
        setupFails(1, TRUNK + "player a^Z 1 1 1 1 1 1;" + B);
        scriptFails(1, "^passpass;");
        scriptFails(1, "^placebar 0 0 0;");
        scriptFails(1, "place ^bars 0 0 0;");
        scriptFails(1, "place ^ba 0 0 0;");
    }

    private static void numbers() {
        Check.sentence("Terms 5", "A number is a maximal run of digits, with or without leading zeros.");
        setupStands("trunk 03 0000000000000000000000000000000000000004;" + A + B);
        setupFails(2, "trunk ^34;" + A + B);
        setupFails(2, "trunk ^0034;" + A + B);
        setupFails(1, "trunk 3 4^.;" + A + B);
        setupFails(1, "trunk ^+3 4;" + A + B);
        setupFails(1, "trunk ^-3 4;" + A + B);
        setupFails(1, "trunk 3^/4;" + A + B);
        setupFails(1, "trunk 3^:4;" + A + B);
        setupFails(1, "trunk 3^x4;" + A + B);
        for (String wrapped : WRAPPED_THREES) {
            setupFails(2, "trunk ^" + wrapped + " 4;" + A + B);
            setupFails(2, "trunk 3 ^" + wrapped + ";" + A + B);
        }
        scriptStands(1, new TrunkDuel(), "place bar" + "0".repeat(500) + "2 3 03;");
    }

    private static void bytesOfNoToken() {
        Check.sentence("Terms 5", "A token is a word, a number or a semicolon.");
        for (int value = 0; value < 256; value++) {
            boolean token = value >= 'a' && value <= 'z' || value >= '0' && value <= '9' || value == ';';
            if (!token && value != ' ') {
                String sign = String.valueOf((char) value);
                setupFails(1, "^" + sign + SETUP);
                setupFails(1, "trunk ^" + sign + " 3 4;" + A + B);
                setupFails(1, SETUP + "^" + sign);
                scriptFails(1, "place^" + sign + "bar 0 0 0;");
                scriptFails(1, "place bar 0 0 0;^" + sign);
            }
        }
    }

    private static void spaces() {
        Check.sentence("Terms 5", "Spaces (byte 32) may stand before and after every token. They are needed"
                + " only between two words and between two numbers.");
        setupStands("trunk3 4;block2 3;strap0 0right;player a0 0 0 0 0 0;player b0 0 0 0 0 0;pass;"
                + "pass;");
        setupStands("  trunk  3  4  ;  block  2  3  ;  strap  0  0  right  ;  player  a  0  0  0  0  0  0  ;"
                + "  player  b  0  0  0  0  0  0  ;  pass  ;  pass  ;  ");
        setupFails(1, "trunk 3 4 ; block 2 3 ; strap 0 0 right ^playera;");
        scriptStands(3, new TrunkDuel(), "place bar0 0 0;strap0 1right;place bar 0 3 1 ;");
        scriptFails(1, "place^\tbar 0 0 0;");
        scriptFails(1, "place bar 0 0 0;^\n");
    }

    private static void names() {
        Check.sentence("Terms 5", "A name is a word of 1 to 6 letters");
        for (int length = 1; length <= 6; length++) {
            TrunkDuel duel = setupStands(TRUNK + "player " + "z".repeat(length) + " 1 1 1 1 1 1;" + B);
            Check.due("the last byte", duel.nameByte(0, length - 1), 'z');
            Check.due("the byte behind it", duel.nameByte(0, length), Bounds.NONE);
            duel = setupStands(TRUNK + A + "player " + "z".repeat(length) + " 1 1 1 1 1 1;");
            Check.due("the last byte", duel.nameByte(1, length - 1), 'z');
            Check.due("the byte behind it", duel.nameByte(1, length), Bounds.NONE);
        }
        setupFails(1, TRUNK + "player ^abcdefg 1 1 1 1 1 1;" + B);
        setupFails(1, TRUNK + A + "player ^abcdefg 1 1 1 1 1 1;");
        setupFails(1, TRUNK + "player ^" + "a".repeat(500));
        setupFails(1, TRUNK + "player ^1 1 1 1 1 1 1;" + B);
        setupFails(1, TRUNK + "player ^; 1 1 1 1 1 1;" + B);
        setupFails(1, TRUNK + "player a ^b 1 1 1 1 1 1;" + B);
    }

    private static void keywordsAsNames() {
        Check.sentence("Terms 5", "keywords may be used as names");
        for (String keyword : new String[] {"trunk", "block", "strap", "right", "below", "player", "place",
            "pass", "bar", "elbow", "rod", "square", "corner"}) {
            setupStands(TRUNK + "player " + keyword + " 1 1 1 1 1 1;" + B);
            setupStands(TRUNK + A + "player " + keyword + " 1 1 1 1 1 1;");
        }
    }

    private static void strapsOfNobody() {
        Check.sentence("Terms 5", "In the setup, an edge before the first player gets a strap that belongs to"
                + " nobody.");
        TrunkDuel duel = setupStands(TRUNK + "strap 0 0 right;strap 1 3 right;player a 0 0 0 0 0 0;player b 0 0 0 0 0 9;");
        Check.due("strapCount()", duel.strapCount(), 2);
        Check.due("strapsLeft(0)", duel.strapsLeft(0), 0);
        Check.due("strapsLeft(1)", duel.strapsLeft(1), 9);
        Check.due("playerToMove()", duel.playerToMove(), 0);
        Check.due("hasStrap(1, 3, RIGHT)", duel.hasStrap(1, 3, 0), true);
    }

    private static void commandsCallTheMethods() {
        Check.sentence("Terms 5", "The commands call place(), fastenStrap() and pass().");
        TrunkDuel called = Bounds.with("trunk 3 3;", "player a 0 0 0 0 0 1;player b 1 0 1 0 0 0;");
        TrunkDuel played = Bounds.with("trunk 3 3;", "player a 0 0 0 0 0 1;player b 1 0 1 0 0 0;");
        called.pass();
        called.place(2, 1, 2, 0);
        called.fastenStrap(0, 2, 0);
        called.place(0, 3, 1, 1);
        called.pass();
        scriptStands(5, played, "pass;place rod 1 2 0;strap 0 2 right;place bar 3 1 1;pass;");
        Check.due("the state", Check.view(played), Check.view(called));
        TrunkDuel loaded = setupStands("trunk 3 3;player a 0 0 0 0 0 1;player b 1 0 1 0 0 0;"
                + "pass;place rod 1 2 0;strap 0 2 right;place bar 3 1 1;pass;");
        Check.due("the state loaded", Check.view(loaded), Check.view(called));
    }

    private static void whenACommandIsExecuted() {
        Check.sentence("Terms 5", "A command is executed when its last token before the semicolon has been"
                + " read.");
        scriptFails(6, "place bar 0 3 ^0");
        scriptFails(6, "place bar 0 3 ^0 x;");
        scriptFails(6, "strap 1 1 ^right");
        scriptFails(6, "strap 1 1 ^right 0;");
        scriptFails(6, "^pass");
        scriptFails(6, "^pass 0;");
        scriptFails(1, "place bar 0 0 0 ^x");
        scriptFails(1, "strap 0 0 right ^x");
        Check.failsToPlay(endless(), "pass x;", 1, 5);
        scriptFails(6, "place bar 0 0 0;place bar 0 0 ^0;");
        scriptFails(6, "strap 0 0 right;place bar 0 0 ^0;");
    }

    private static void parsingStops() {
        Check.sentence("Terms 5", "Parsing stops at the first wrong token.");
        setupFails(2, "trunk ^9 x;");
        setupFails(1, "trunk ^x 9;");
        setupFails(3, TRUNK + "strap 2 0 ^right;block 9 9;");
        scriptFails(6, "place bar 0 3 ^0;place bar 9 9 9;x");
        scriptFails(2, "place bar ^4 9 9;");
    }

    private static void errorOffsets() {
        Check.sentence("Terms 5", "The error offset is the index of the first byte of that token");
        setupFails(1, "^x");
        setupFails(1, "   ^x");
        setupFails(1, " ".repeat(599) + "^x");
        setupFails(2, "trunk   ^00009 3;");
        setupFails(1, "trunk3^trunk");
        scriptFails(6, "place bar 0 3   ^0000;");
    }

    private static void textsThatEndTooEarly() {
        Check.sentence("Terms 5", "or the length of the text if the text ends too early");
        String[] parts = {"trunk", "3", "4", ";", "block", "0", "0", ";", "strap", "1", "1", "right", ";",
            "player", "a", "0", "0", "0", "0", "0", "0", ";", "player", "b", "0", "0", "0", "0", "0", "0"};
        StringBuilder text = new StringBuilder();
        setupFails(1, "^");
        for (String part : parts) {
            text.append(part);
            setupFails(1, text + "^");
            text.append(' ');
            setupFails(1, text + "^");
            setupFails(1, text + " ".repeat(600 - text.length()) + "^");
        }
        setupStands(text + ";");
        scriptFails(1, "place^");
        scriptFails(1, "place bar ^");
        scriptFails(1, "place bar 0^");
        scriptFails(1, "place bar 0 0^");
        scriptFails(1, "place bar 0 0 0^");
        scriptFails(1, "strap^");
        scriptFails(1, "strap 0^");
        scriptFails(1, "strap 0 0  ^");
        scriptFails(1, "strap 0 0 right^");
        Check.failsToPlay(endless(), "pass", 1, 4);
    }

    private static void lowestCode() {
        Check.sentence("Terms 5", "If several error codes apply to a token, the lowest code is reported.");
        setupFails(3, TRUNK + "block 2 0;strap 2 0 ^right;" + A + B);
        setupFails(3, TRUNK + "block 0 3;strap 0 3 ^below;" + A + B);
        setupFails(3, "trunk 3 3;player a 0 0 0 0 0 0;player b 0 0 0 0 0 0;strap 2 0 ^right;");
        setupFails(2, TRUNK + A + B + "place bar 0 0 ^4;");
        setupFails(3, TRUNK + "block 2 0;" + A + B + "strap 2 0 ^right;");
        Check.failsToPlay(Bounds.with("trunk 3 3;", Bounds.POOR + "pass;pass;"), "place bar 0 0 3;", 2, 14);
        Check.failsToPlay(Bounds.with("trunk 3 3;", Bounds.POOR + "pass;pass;"), "strap 2 2 below;", 3, 10);
    }

    private static void codeOne() {
        Check.sentence("Terms 5", "Code 1, syntax error: the token is not allowed there, the byte belongs to no"
                + " token, a name has more than 6 letters, or the text ends too early.");
        setupFails(1, "^strunk 3 4;");
        setupFails(1, "trunk 3 4 ^5;");
        setupFails(1, "trunk 3 ^;");
        setupFails(1, "trunk 3 4;^?");
        setupFails(1, TRUNK + "player ^zzzzzzz 1 1 1 1 1 1;");
        setupFails(1, TRUNK + A + "player b 1 1 1 1 1 1^");
    }

    private static void codeTwo() {
        Check.sentence("Terms 5", "Code 2, number out of range: columns and rows 3 to 8, column and row of the"
                + " trunk, supplies 0 to 9, rotation 0 to 3.");
        for (int bad : new int[] {0, 1, 2, 9, 10, Bounds.MAX}) {
            setupFails(2, "trunk ^" + bad + " 4;" + A + B);
            setupFails(2, "trunk 3 ^" + bad + ";" + A + B);
        }
        for (String[] corner : new String[][] {{"3", "8"}, {"8", "3"}}) {
            String trunk = "trunk " + corner[0] + " " + corner[1] + ";";
            int columns = Integer.parseInt(corner[0]);
            int rows = Integer.parseInt(corner[1]);
            setupStands(trunk + "block " + (columns - 1) + " " + (rows - 1) + ";" + A + B);
            setupStands(trunk + "strap " + (columns - 2) + " " + (rows - 1) + " right;" + A + B);
            for (String bad : new String[] {corner[0], "9", "256", "2147483647", "4294967296"}) {
                setupFails(2, trunk + "block ^" + bad + " 0;" + A + B);
                setupFails(2, trunk + "strap ^" + bad + " 0 right;" + A + B);
                setupFails(2, trunk + A + B + "strap ^" + bad + " 0 below;");
                setupFails(2, trunk + A + B + "place bar 0 ^" + bad + " 0;");
            }
            for (String bad : new String[] {corner[1], "9", "256", "2147483647", "4294967296"}) {
                setupFails(2, trunk + "block 0 ^" + bad + ";" + A + B);
                setupFails(2, trunk + "strap 0 ^" + bad + " right;" + A + B);
                setupFails(2, trunk + A + B + "strap 0 ^" + bad + " below;");
                setupFails(2, trunk + A + B + "place bar 0 0 ^" + bad + ";");
            }
        }
        setupStands(TRUNK + "player a 0 0 0 0 0 0;player b 9 9 9 9 9 9;");
        setupFails(2, TRUNK + "player a ^10 0 0 0 0 0;" + B);
        setupFails(2, TRUNK + A + "player b 9 9 9 9 9 ^10;");
        for (int rotation = 0; rotation <= 3; rotation++) {
            scriptStands(1, new TrunkDuel(), "place bar " + rotation + " 1 2;");
        }
        scriptFails(2, "place bar ^4 1 2;");
        scriptFails(2, "place bar ^" + Bounds.MAX + " 1 2;");
        scriptFails(2, "place bar ^4294967296 1 2;");
    }

    private static void codeThree() {
        Check.sentence("Terms 5", "Code 3, no such edge: the side of an edge whose second cell is outside the"
                + " trunk.");
        for (int span = 3; span <= 8; span++) {
            String trunk = "trunk " + span + " " + span + ";";
            int last = span - 1;
            int next = span - 2;
            setupFails(3, trunk + "strap " + last + " 0 ^right;" + A + B);
            setupFails(3, trunk + "strap 0 " + last + " ^below;" + A + B);
            setupFails(3, trunk + A + B + "strap " + last + " " + last + " ^right;");
            setupFails(3, trunk + A + B + "strap " + last + " " + last + " ^below;");
            setupStands(trunk + "strap " + next + " " + last + " right;strap " + last + " " + next + " below;"
                    + A + B);
            setupStands(trunk + A + B + "strap " + next + " 0 right;strap 0 " + next + " below;");
        }
        scriptFails(3, "strap 4 1 ^right;");
        scriptFails(3, "strap 1 3 ^below;");
        scriptStands(2, new TrunkDuel(), "strap 3 1 right;strap 1 2 below;");
    }

    private static void codeFour() {
        Check.sentence("Terms 5", "Code 4, duplicate: the row number of a block that is blocked already, the"
                + " side of an edge that already has a strap in the setup, or the name of the second player"
                + " if it equals that of the first.");
        setupFails(4, TRUNK + "block 0 0;block 0 ^0;" + A + B);
        setupFails(4, TRUNK + "block 2 3;block 0 0;block 02 ^003;" + A + B);
        setupStands(TRUNK + "block 0 1;block 1 0;block 1 1;block 0 0;" + A + B);
        setupFails(4, TRUNK + "strap 0 0 right;strap 0 0 ^right;" + A + B);
        setupFails(4, TRUNK + "strap 2 2 below;strap 0 0 right;strap 2 2 ^below;" + A + B);
        setupStands(TRUNK + "strap 0 0 right;strap 0 0 below;strap 1 0 right;strap 0 1 right;" + A + B);
        setupFails(4, TRUNK + "player a 1 1 1 1 1 1;player ^a 1 1 1 1 1 1;");
        setupFails(4, TRUNK + "player abcdef 1 1 1 1 1 1;player ^abcdef 1 1 1 1 1 1;");
        setupStands(TRUNK + "player abcdef 1 1 1 1 1 1;player abcdeg 1 1 1 1 1 1;");
        setupStands(TRUNK + "player abcdef 1 1 1 1 1 1;player abcde 1 1 1 1 1 1;");
        setupStands(TRUNK + "player bbcdef 1 1 1 1 1 1;player abcdef 1 1 1 1 1 1;");
        setupStands(TRUNK + "player a 1 1 1 1 1 1;player aa 1 1 1 1 1 1;");
        setupStands(TRUNK + "player ann 1 1 1 1 1 1;player bob 1 1 1 1 1 1;");
        setupStands(TRUNK + "player bob 1 1 1 1 1 1;player ann 1 1 1 1 1 1;");
    }

    private static void codeFive() {
        Check.sentence("Terms 5", "Code 5, blocked: the side of an edge in the setup, if one of its cells is"
                + " blocked.");
        String middle = TRUNK + "block 1 1;";
        setupFails(5, middle + "strap 1 1 ^right;" + A + B);
        setupFails(5, middle + "strap 1 1 ^below;" + A + B);
        setupFails(5, middle + "strap 0 1 ^right;" + A + B);
        setupFails(5, middle + "strap 1 0 ^below;" + A + B);
        setupStands(middle + "strap 0 0 right;strap 0 0 below;strap 1 0 right;strap 2 0 below;strap 0 1 below;"
                + "strap 2 1 below;strap 0 2 right;strap 1 2 right;strap 1 2 below;" + A + B);
        setupFails(5, TRUNK + "block 0 0;block 1 0;strap 0 0 ^right;" + A + B);
    }

    private static void codeSix() {
        Check.sentence("Terms 5", "Code 6, not possible: the last token of a command, if the method would throw an"
                + " IllegalStateException.");
        String poor = "player a 0 0 0 0 0 0;player b 0 0 0 0 0 0;";
        setupFails(6, TRUNK + poor + "pass;pass;^pass;");
        setupFails(6, TRUNK + poor + "place bar 0 0 ^0;");
        setupFails(6, TRUNK + poor + "strap 0 0 ^right;");
        setupFails(6, TRUNK + poor + "pass;strap 0 0 ^below;");
        setupFails(6, SETUP + "place rod 0 1 ^0;");
        setupFails(6, SETUP + "place rod 2 1 ^0;");
        setupFails(6, SETUP + "place square 0 0 0;place bar 0 1 ^1;");
        setupFails(6, SETUP + "place square 0 0 0;strap 0 0 ^right;");
        setupFails(6, SETUP + "place square 0 0 0;strap 0 0 ^below;");
        setupFails(6, SETUP + "^pass;");
        setupStands(SETUP + "place square 0 0 0;strap 1 0 right;");
        scriptFails(6, "strap 0 0 right;strap 0 1 right;strap 0 2 ^right;");
        scriptFails(6, "strap 2 2 ^below;");
        scriptFails(6, "strap 4 0 ^below;");
        scriptFails(6, "strap 3 0 ^right;");
        scriptFails(6, "place square 0 0 0;place bar 0 3 1;place square 0 0 ^2;");
    }
}
