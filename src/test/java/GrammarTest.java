/** The texts of load() and play(): tokens, rules, error codes and error offsets. */
public final class GrammarTest {
    private static final String SIZE = "trunk 3 4;";
    private static final String ANN = "player ann 1 1 1 1 1 1;";
    private static final String BOB = "player bob 1 1 1 1 1 1;";
    private static final String SETUP = SIZE + ANN + BOB;

    public static void main(String[] args) {
        sizes();
        blocks();
        freeStraps();
        players();
        commandsInSetup();
        tokens();
        endings();
        scripts();
        scriptStraps();
        goodTexts();
        Check.finish("GrammarTest");
    }

    /** Code and offset of an error at the place of the mark, which is no part of the text. */
    private static void setupFails(int code, String marked) {
        int offset = marked.indexOf('^');
        Check.failsToLoad(marked.substring(0, offset) + marked.substring(offset + 1), code, offset);
    }

    private static void scriptFails(int code, String marked) {
        int offset = marked.indexOf('^');
        Check.failsToPlay(new TrunkDuel(),
                marked.substring(0, offset) + marked.substring(offset + 1), code, offset);
    }

    private static void setupStands(String text) {
        TrunkDuel duel = new TrunkDuel();
        Check.due("load of " + text, Check.load(duel, text) != TrunkDuel.NONE, true);
        Check.due("errorCode of " + text, duel.errorCode(), 0);
        Check.due("errorOffset of " + text, duel.errorOffset(), TrunkDuel.NONE);
    }

    private static void sizes() {
        setupFails(1, "^");
        setupFails(1, "   ^");
        setupFails(1, "^trunks 3 3;");
        setupFails(1, "^trun 3 3;");
        setupFails(1, "^drunk 3 3;");
        setupFails(1, "^block 0 0;");
        setupFails(1, "^3 3;");
        setupFails(1, "^;");
        setupFails(2, "trunk ^2 3;");
        setupFails(2, "trunk ^9 3;");
        setupFails(2, "trunk 3 ^2;");
        setupFails(2, "trunk 3 ^9;");
        setupFails(2, "trunk ^4294967299 3;");
        setupFails(2, "trunk ^99999999999999999999999999999999999 3;");
        setupFails(2, "trunk ^33;");
        setupFails(1, "trunk ^x 3;");
        setupFails(1, "trunk ^;");
        setupFails(1, "trunk 3 ^;");
        setupFails(1, "trunk 3 3 ^3;");
        setupFails(1, "trunk 3 3 ^player");
        setupFails(1, "trunk ^-3 3;");
        setupFails(1, "trunk 3^.0 3;");
    }

    private static void blocks() {
        setupFails(2, SIZE + "block ^3 0;");
        setupFails(2, SIZE + "block 0 ^4;");
        setupFails(4, SIZE + "block 2 3;block 2 ^3;");
        setupFails(4, SIZE + "block 0 1;block 1 0;block 0 ^01");
        setupFails(1, SIZE + "block ^right 0;");
        setupFails(1, SIZE + "block 1 ^;");
        setupFails(1, SIZE + "block 1 1 ^1;");
        setupFails(1, SIZE + "block 1 1 ^strap 0 0 right;" + ANN + BOB);
        setupFails(1, SIZE + "block 1 1 ^" + ANN + BOB);
        setupFails(1, SIZE + "^clock 1 1;" + ANN + BOB);
        setupFails(1, SIZE + "strap 0 0 right;^block 2 2;" + ANN + BOB);
        setupFails(1, SIZE + ANN + "^block 2 2;" + BOB);
        setupFails(1, SETUP + "^block 2 2;");
        setupStands(SIZE + "block 2 3;block 0 0;" + ANN + BOB);
    }

    private static void freeStraps() {
        setupFails(2, SIZE + "strap ^3 0 right;");
        setupFails(2, SIZE + "strap 0 ^4 right;");
        setupFails(3, SIZE + "strap 2 0 ^right;");
        setupFails(3, SIZE + "strap 0 3 ^below;");
        setupFails(1, SIZE + "strap 2 0 ^left;");
        setupFails(1, SIZE + "strap 0 0 ^rights;");
        setupFails(1, SIZE + "strap 0 0 ^0;");
        setupFails(1, SIZE + "strap 0 0 ^;");
        setupFails(1, SIZE + "strap 0 0 right ^right;");
        setupFails(1, SIZE + "strap 0 0 right ^" + ANN + BOB);
        setupFails(1, SIZE + "strap 0 0 ^night;" + ANN + BOB);
        setupFails(4, SIZE + "strap 0 0 right;strap 0 0 ^right;");
        setupFails(4, SIZE + "strap 1 2 below;strap 1 2 ^below;");
        setupFails(5, SIZE + "block 1 1;strap 1 1 ^right;");
        setupFails(5, SIZE + "block 1 1;strap 1 1 ^below;");
        setupFails(5, SIZE + "block 1 1;strap 0 1 ^right;");
        setupFails(5, SIZE + "block 1 1;strap 1 0 ^below;");
        setupFails(3, SIZE + "block 2 0;strap 2 0 ^right;");
        setupStands(SIZE + "block 1 1;strap 0 0 right;strap 0 0 below;strap 2 0 below;"
                + "strap 1 3 right;strap 1 2 below;" + ANN + BOB);
        setupFails(1, SIZE + ANN + "^strap 0 0 right;" + BOB);
    }

    private static void players() {
        setupFails(1, SIZE + "^players a 0 0 0 0 0 0;");
        setupFails(1, SIZE + "^pass;");
        setupFails(1, SIZE + "player ^abcdefg 0 0 0 0 0 0;");
        setupFails(1, SIZE + "player ^1 0 0 0 0 0 0;");
        setupFails(1, SIZE + "player ^;");
        setupFails(1, SIZE + "player ^Ann 0 0 0 0 0 0;");
        setupFails(1, SIZE + "player ann ^bob 0 0 0 0 0 0;");
        setupFails(2, SIZE + "player a ^10 0 0 0 0 0;");
        setupFails(2, SIZE + "player a 0 ^10 0 0 0 0;");
        setupFails(2, SIZE + "player a 0 0 ^10 0 0 0;");
        setupFails(2, SIZE + "player a 0 0 0 ^10 0 0;");
        setupFails(2, SIZE + "player a 0 0 0 0 ^10 0;");
        setupFails(2, SIZE + "player a 0 0 0 0 0 ^10;");
        setupFails(1, SIZE + "player a 0 0 0 0 0^;");
        setupFails(1, SIZE + "player a 0 0 0 0 0 0 ^0;");
        setupFails(4, SIZE + ANN + "player ^ann 0 0 0 0 0 0;");
        setupFails(1, SIZE + ANN + "player ^abcdefg 0 0 0 0 0 0;");
        setupFails(2, SIZE + ANN + "player b 0 0 0 0 0 ^10;");
        setupStands(SIZE + ANN + "player an 0 0 0 0 0 0;");
        setupStands(SIZE + ANN + "player anna 0 0 0 0 0 0;");
        setupStands(SIZE + ANN + "player aan 0 0 0 0 0 0;");
        setupStands(SIZE + "player strap 9 9 9 9 9 9;player square 9 9 9 9 9 9;");
        setupFails(1, SIZE + ANN + "^pass;");
        setupFails(1, SETUP + "^player cid 0 0 0 0 0 0;");
    }

    private static void commandsInSetup() {
        setupFails(6, SETUP + "place bar 0 2 ^0;");
        setupFails(6, SETUP + "place bar 0 0 0;place bar 0 0 ^0;");
        setupFails(6, SETUP + "^pass;");
        setupFails(3, SETUP + "strap 2 0 ^right;");
        setupFails(6, SETUP + "strap 0 0 right;strap 0 0 ^right;");
        setupFails(6, SIZE + "block 0 0;" + ANN + BOB + "strap 0 0 ^right;");
        setupFails(1, SETUP + "^trunk 3 3;");
        setupFails(1, SETUP + "strap 0 0 right^");
        setupFails(1, SETUP + "place bar 0 0 0 ^pass;");
    }

    private static void tokens() {
        setupFails(1, "trunk^\t3 3;");
        setupFails(1, "trunk^\n3 3;");
        setupFails(1, "trunk 3 3^,");
        setupFails(1, "^Trunk 3 3;");
        setupFails(1, "trunk^K 3 3;");
        setupFails(1, "trunk 3 3^:");
        setupFails(1, "trunk ^/ 3;");
        setupFails(1, "trunk ^` 3;");
        setupFails(1, "trunk ^{ 3;");
        setupFails(1, "trunk ^\u0000 3;");
        setupFails(1, "trunk ^\u00ff 3;");
        setupFails(1, "trunk 3 3;^\u00e4");
        setupFails(1, "trunk 3 3;^;");
        setupFails(1, "^tr unk 3 3;");
        setupFails(2, "trunk 3 3;block 0 ^3;");
        setupFails(1, "trunk 3 3;block ^x0;");
    }

    private static void endings() {
        String whole = "trunk 3 3;block 0 0;strap 1 1 right;"
                + "player a 0 0 0 0 0 0;player b 1 1 1 1 1 1;";
        setupStands(whole);
        for (int length = 0; length < whole.length(); length++) {
            boolean inWord = length > 0 && isLetter(whole, length - 1) && isLetter(whole, length);
            if (!inWord) {
                Check.failsToLoad(whole.substring(0, length), 1, length);
                Check.failsToLoad(whole.substring(0, length) + "   ", 1, length + 3);
            }
        }
    }

    private static boolean isLetter(String text, int index) {
        return text.charAt(index) >= 'a' && text.charAt(index) <= 'z';
    }

    private static void scripts() {
        scriptFails(1, "^trunk 5 4;");
        scriptFails(1, "^;");
        scriptFails(1, "^7");
        scriptFails(1, "^passes;");
        scriptFails(1, "place ^box 0 0 0;");
        scriptFails(1, "place ^car 0 0 0;");
        scriptFails(1, "^bass;");
        scriptFails(1, "place ^0 0 0 0;");
        scriptFails(1, "place bar ^right 0 0;");
        scriptFails(2, "place bar ^4 0 0;");
        scriptFails(2, "place bar 0 ^5 0;");
        scriptFails(2, "place bar 0 0 ^4;");
        scriptFails(2, "place square 0 0 ^1000000000000;");
        scriptFails(1, "place bar 0 0 0^");
        scriptFails(1, "place bar 0 0 0 ^0;");
        scriptFails(1, "place bar 0 0 0;^x");
        scriptFails(1, "place^");
        scriptFails(6, "place bar 0 4 ^0;");
        scriptFails(6, "place bar 0 3 ^0;");
        scriptFails(6, "place bar 0 1 ^1;");
        scriptFails(6, "place bar 0 0 0;place square 0 0 ^2;");
        scriptFails(6, "place square 0 0 0;place bar 0 2 0;place square 0 2 ^2 x");
        scriptFails(6, "^pass");
        scriptFails(6, "^pass pass");
    }

    private static void scriptStraps() {
        scriptFails(2, "strap ^5 0 right;");
        scriptFails(2, "strap 0 ^4 right;");
        scriptFails(3, "strap 4 1 ^right;");
        scriptFails(3, "strap 1 3 ^below;");
        scriptFails(1, "strap 0 0 ^up;");
        scriptFails(1, "strap 0 0 below^0");
        scriptFails(6, "strap 1 1 ^right;");
        scriptFails(6, "strap 3 0 ^right;");
        scriptFails(6, "strap 4 0 ^below;");
        scriptFails(6, "place bar 0 0 0;strap 0 0 ^right;");
        scriptFails(6, "strap 0 0 right;strap 0 1 right;strap 0 2 ^right;");
    }

    private static void goodTexts() {
        TrunkDuel duel = new TrunkDuel();
        Check.due("all words", Check.play(duel, " strap0 0right ;strap 0 0below;"
                + "place bar0 1 0;place elbow 2 3 1;place rod 0000 1 3;"), 5);
        Check.due("the state", Check.view(duel), String.join("\n",
                "5x4",
                ".+0 0 1 # ",
                ". .|1 1 . ",
                ". . ._. . ",
                "# 2 2 2 . ",
                "0 0 1 0 0 2",
                "1 2 3 1 1 3",
                "2 0 1 3 0 3",
                "ann 1 2 0 1 1 0 score 5",
                "bob 1 2 1 0 1 1 score 3",
                "to move 1 over false"));
        Check.due("square and corner", Check.play(Check.loaded(
                "trunk 8 8;player a 0 0 0 1 0 0;player b 0 0 0 0 1 0;"),
                "place square 3 1 1;place corner 2 7 7;"), 2);
    }
}
