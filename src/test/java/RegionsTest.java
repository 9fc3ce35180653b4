/** Promises 49 to 53: regions and dead cells. */
public final class RegionsTest {
    private static final String PLAYERS = "player a 9 9 9 9 9 9;player b 9 9 9 9 9 9;";

    public static void main(String[] args) {
        atFirst();
        strapsDivide();
        windingRegion();
        singleCells();
        nothingEmpty();
        arguments();
        Check.finish("RegionsTest");
    }

    private static void atFirst() {
        TrunkDuel duel = new TrunkDuel();
        Check.due("regionCount()", duel.regionCount(), 1);
        Check.due("largestRegion()", duel.largestRegion(), 18);
        Check.due("regionSize(0, 0)", duel.regionSize(0, 0), 18);
        Check.due("regionSize(4, 0)", duel.regionSize(4, 0), 0);
        Check.due("isDead(0, 0)", duel.isDead(0, 0), false);
        Check.due("isDead(4, 0)", duel.isDead(4, 0), false);
        Check.due("deadCells()", duel.deadCells(), 0);
        duel.place(3, 0, 0, 0);
        Check.due("regionSize(0, 0) of a piece", duel.regionSize(0, 0), 0);
        Check.due("isDead(0, 0) of a piece", duel.isDead(0, 0), false);
    }

    private static void strapsDivide() {
        TrunkDuel duel = Check.loaded("trunk 3 4;strap 0 1 below;strap 1 1 below;strap 2 1 below;"
                + "strap 0 2 right;strap 0 3 right;" + PLAYERS);
        Check.due("regionCount()", duel.regionCount(), 3);
        Check.due("largestRegion()", duel.largestRegion(), 6);
        Check.due("regionSize(2, 1)", duel.regionSize(2, 1), 6);
        Check.due("regionSize(0, 3)", duel.regionSize(0, 3), 2);
        Check.due("regionSize(2, 2)", duel.regionSize(2, 2), 4);
        Check.due("deadCells()", duel.deadCells(), 0);
        duel.fastenStrap(0, 2, 1);
        Check.due("regionCount() with one more strap", duel.regionCount(), 4);
        Check.due("isDead(0, 2)", duel.isDead(0, 2), true);
        Check.due("isDead(0, 3)", duel.isDead(0, 3), true);
        Check.due("isDead(1, 2)", duel.isDead(1, 2), false);
        Check.due("deadCells()", duel.deadCells(), 2);
    }

    /** A corridor that leads in all four directions. */
    private static void windingRegion() {
        TrunkDuel duel = Check.loaded("trunk 7 7;"
                + "block 1 0;block 1 1;block 1 2;block 1 3;block 1 4;block 1 5;"
                + "block 3 1;block 3 2;block 3 3;block 3 4;block 3 5;block 3 6;"
                + "block 5 0;block 5 1;block 5 2;block 5 3;block 5 4;block 5 5;" + PLAYERS);
        Check.due("regionCount()", duel.regionCount(), 1);
        Check.due("largestRegion()", duel.largestRegion(), 31);
        Check.due("regionSize(6, 0)", duel.regionSize(6, 0), 31);
        TrunkDuel strapped = Check.loaded("trunk 3 3;strap 0 0 below;strap 1 0 below;strap 1 1 below;"
                + "strap 2 1 below;" + PLAYERS);
        Check.due("regionCount() between straps", strapped.regionCount(), 1);
        Check.due("regionSize(0, 0) between straps", strapped.regionSize(0, 0), 9);
        TrunkDuel upright = Check.loaded("trunk 3 3;strap 0 0 right;strap 0 1 right;strap 1 1 right;"
                + "strap 1 2 right;" + PLAYERS);
        Check.due("regionCount() between upright straps", upright.regionCount(), 1);
        Check.due("regionSize(2, 2) between upright straps", upright.regionSize(2, 2), 9);
    }

    private static void singleCells() {
        String single = "trunk 3 3;block 1 0;block 0 1;" + PLAYERS;
        Check.due("deadCells() alone", Check.loaded(single).deadCells(), 1);
        Check.due("largestRegion() alone", Check.loaded(single).largestRegion(), 6);
        Check.due("isDead(0, 0) alone", Check.loaded(single).isDead(0, 0), true);
        Check.due("regionSize(2, 2) alone", Check.loaded(single).regionSize(2, 2), 6);
        TrunkDuel duel = Check.loaded("trunk 3 3;block 1 0;block 0 1;block 2 1;block 1 2;" + PLAYERS);
        Check.due("regionCount()", duel.regionCount(), 5);
        Check.due("largestRegion()", duel.largestRegion(), 1);
        Check.due("deadCells()", duel.deadCells(), 5);
        Check.due("isDead(1, 1)", duel.isDead(1, 1), true);
        Check.due("isDead(1, 0)", duel.isDead(1, 0), false);
        TrunkDuel poor = Check.loaded("trunk 3 3;player a 0 0 0 0 0 0;player b 0 0 0 0 0 0;");
        Check.due("deadCells() without supplies", poor.deadCells(), 0);
        TrunkDuel pair = Check.loaded("trunk 3 3;block 0 1;block 1 1;block 2 0;block 2 1;"
                + "strap 1 2 right;" + PLAYERS);
        Check.due("isDead(0, 0) in a region of two", pair.isDead(0, 0), false);
        Check.due("isDead(2, 2) behind a strap", pair.isDead(2, 2), true);
        Check.due("deadCells()", pair.deadCells(), 1);
    }

    private static void nothingEmpty() {
        TrunkDuel duel = Check.loaded("trunk 3 3;player a 0 0 3 0 0 0;player b 0 0 3 0 0 0;"
                + "place rod 0 0 0;place rod 0 0 1;place rod 0 0 2;");
        Check.due("regionCount()", duel.regionCount(), 0);
        Check.due("largestRegion()", duel.largestRegion(), 0);
        Check.due("regionSize(1, 1)", duel.regionSize(1, 1), 0);
        Check.due("deadCells()", duel.deadCells(), 0);
        Check.due("isDead(1, 1)", duel.isDead(1, 1), false);
    }

    private static void arguments() {
        TrunkDuel duel = new TrunkDuel();
        int min = Integer.MIN_VALUE;
        int max = Integer.MAX_VALUE;
        for (int[] bad : new int[][] {{-1, 0}, {5, 0}, {0, -1}, {0, 4}, {min, 0}, {max, 0}, {0, min},
            {0, max}, {7, 7}}) {
            Check.outOfBounds("regionSize", () -> duel.regionSize(bad[0], bad[1]));
            Check.outOfBounds("isDead", () -> duel.isDead(bad[0], bad[1]));
        }
    }
}
