/** What is worked out by hand from the document, for several tests. */
final class ByHand {
    /** PLANES of units 0 .. 14 by CUT 1 .. 8. */
    static final String[] PLANES_BY_CUT = {
        "321032132323333", "332211033223333", "333222110333233", "333322221103333",
        "333332222110333", "333333222211033", "333333322221103", "333333332222110",
    };

    /** SLICES that units 0 .. 14 are in, by CUT 1 .. 8. */
    static final String[] SLICES_BY_CUT = {
        "000011122334567", "000000011112233", "000000000111122", "000000000001111",
        "000000000000111", "000000000000011", "000000000000001", "000000000000000",
    };

    /** LIGHT by LEVELS 0 .. 9, of PLAIN, HALVED, BRIGHT ones. */
    static final int[][] LIGHT_BY_LEVEL = {
        {0, 1, 2, 3, 4, 5, 6, 7, 8, 9}, {0, 0, 1, 1, 2, 2, 3, 3, 4, 4}, {0, 1, 3, 4, 6, 7, 9, 10, 12, 13},
    };

    private ByHand() {
    }
}
