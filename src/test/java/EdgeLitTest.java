import java.math.BigInteger;
import java.util.Arrays;

/** The boundary cases of promises 14 to 19, sentence by sentence; the rows are told in Runs. */
public final class EdgeLitTest {
    private static final Runs RUNS = new Runs();
    private static final String FULL = "TEXT w3;p1234;h5678;b9012;p3456";

    public static void main(String[] args) {
        reading();
        readingOrder();
        readingsStay();
        back();
        kinds();
        levels();
        cuts();
        contradictions();
        oddsEdges();
        oddsOfOne();
        oddsCounted();
        oddsFull();
        oddsOrder();
        RUNS.end();
    }

    // ---- 14 reading, 15 back

    private static void reading() {
        RUNS.run("14: 8 at most, numbered by how many there are", FULL, "reading 0 {0..7} 0 = 0 1 2 3 4 5 6 7",
            "many 4 = 8", "reading {0 14} {0 15} {0 1} == FULL", "back 1 = 7", "reading 0 0 0 = 7",
            "reading 0 0 0 == FULL");
        RUNS.run("14: units 0 and 14, LAMPS 0 and 15, lit 0 and 1", FULL,
            "reading {0 14} {0 15} {0 1} = 0 1 2 3 4 5 6 7");
        RUNS.run("14: one that is not so of the WALL as it is, and the same once more", "TEXT w3;p0",
            "reading 0 0 1 = 0", "reading 0 0 1 = 1", "reading 0 0 0 = 2", "many 4 = 3", "ofLamp 0 {1 2} = 0 0");
        RUNS.run("14: of a LAMP of a DEAD MODULE", "TEXT w3;p9", "die 0", "reading 0 0 1 = 0", "many 4 = 1");
        RUNS.run("14: names no FAULT", "TEXT w3;p9", "put 0 0 0 = NULL", "reading 0 0 1 = 0", "back 1 = 0",
            "fault = 1");
    }

    private static void readingOrder() {
        String[] full = {FULL, "reading 3 {0..7} 1"};
        RUNS.run("14: UNKNOWN: LAMP, ahead of OUTSIDE", FULL,
            "reading {-1 0 15 FAR} {-1 16 FAR} {-1 0 2 FAR} == UNKNOWN");
        RUNS.run("14: UNKNOWN: LAMP, ahead of FULL", full[0], full[1],
            "reading {-1 0 15} {-1 16 FAR} {0 2} == UNKNOWN");
        RUNS.run("14: UNKNOWN in a WALL of one", "TEXT w3;p9", "reading 0 {1..16} 0 == UNKNOWN");
        RUNS.run("14: OUTSIDE: unit", FULL, "reading {-1 15 16 FAR} {0 15} {0 1 2} == OUTSIDE");
        RUNS.run("14: OUTSIDE: lit", FULL, "reading {0 14} {0 15} {-1 2 FAR} == OUTSIDE");
        RUNS.run("14: OUTSIDE ahead of FULL", full[0], full[1], "reading {-1 15 FAR} {0 15} {0 1 2} == OUTSIDE",
            "reading {0 14} {0 15} {-1 2 FAR} == OUTSIDE", "reading {0 14} {0 15} {0 1} == FULL");
    }

    private static void readingsStay() {
        RUNS.run("14: READINGS stay, but for a TEXT that is taken", "TEXT w3;p9", "reading {0..2} 0 1", "level 0 3",
            "cut 8", "die 0", "ROW 0 0 4 5 6", "send 0 0 0 1", "TEXT w3;q = -103", "many 4 = 3", "TEXT w3;p9",
            "many 4 = 0", "reading 0 0 0 = 0");
        RUNS.run("14: FULL, and a TEXT that is taken", "TEXT w3;p9", "reading {0..7} 0 1", "wall 3 0 0 5 = 1",
            "back {1 8} == OUTSIDE", "reading {0..7} 0 1 = 0 1 2 3 4 5 6 7");
    }

    private static void back() {
        for (int n = 0; n <= 8; n++) {
            RUNS.run("15: 0 .. as many as there are", FULL, "reading {0..7} 0 0", "back {9 10 -1 FAR} == OUTSIDE",
                "back " + n + " = " + (8 - n), "many 4 = " + (8 - n), "back " + (9 - n) + " == OUTSIDE",
                "back -1 == OUTSIDE", "back 0 == " + (8 - n), "back " + (8 - n) + " = 0", "back 0 == 0",
                "back 1 == OUTSIDE");
        }
        RUNS.run("15: the last ones are taken back", "TEXT w8;p9", "reading 0 0 1", "reading 8 0 1", "reading 12 0 1",
            "levels 0 = []", "back 1 = 2", "levels 0 = []", "back 1 = 1", "levels 0 = [8,9]", "back 1 = 0",
            "levels 0 = [0..9]");
        RUNS.run("15: what was taken back is told no more", "TEXT w8;p9", "reading 8 0 1", "back 1",
            "reading 0 0 1 = 0", "levels 0 = [8,9]");
    }

    // ---- 16 kinds, 17 levels, 18 cuts

    private static void kinds() {
        RUNS.run("16: no READINGS: all", FULL, "kinds {0..3} == [0..2]");
        RUNS.run("16: LEVEL 9: LIGHT 9, 4, 13", "TEXT w8;p9", "reading 0 0 1", "kinds 0 == [0,2]", "back 1",
            "reading 0 0 0", "kinds 0 == [1]", "back 1", "reading 8 0 1", "kinds 0 == [1,2]", "back 1",
            "reading 14 0 1", "kinds 0 == [0,2]", "back 1", "reading 12 0 1", "kinds 0 == []", "back 1",
            "reading 12 0 0", "kinds 0 == [0..2]");
        RUNS.run("16: whichever kind it is", "TEXT w8;b9;h9", "reading 0 0 1", "kinds {0 1} == [0,2] [0..2]",
            "reading 8 1 1", "kinds {0 1} == [0,2] [1,2]");
        RUNS.run("16: all LAMPS of a MODULE are of one kind", "TEXT w8;p94", "reading 0 0 1", "kinds 0 == [0,2]",
            "reading 8 1 1", "kinds 0 == [0,2]", "reading 12 1 1", "kinds 0 == [2]", "reading 14 1 1",
            "kinds 0 == []");
        RUNS.run("16: the others as they are", "TEXT w8;p9;p0", "reading 0 1 1", "kinds {0 1} == []", "level 1 8",
            "kinds {0 1} == [0..2] [0,2]", "level 1 6", "kinds {0 1} == [] [2]");
        RUNS.run("16: a DEAD one is not LIT by any kind", "TEXT w8;p9", "die 0", "reading 0 0 0", "kinds 0 == [0..2]",
            "reading 8 0 1", "kinds 0 == []", "die 0", "kinds 0 == [1]");
        RUNS.run("16: UNKNOWN", FULL, "kinds {-1 4 FAR} == UNKNOWN");
        RUNS.run("16: UNKNOWN in a WALL of one", "TEXT w8;p9", "kinds {1..4} == UNKNOWN");
    }

    private static void levels() {
        RUNS.run("17: no READINGS: all", FULL, "levels {0..15} == [0..9]");
        RUNS.run("17: of a PLAIN one", "TEXT w8;p0", "reading 0 0 1", "levels 0 == [8,9]", "reading 14 0 1",
            "levels 0 == [9]", "back 2", "reading 0 0 0", "levels 0 == [0..7]", "back 1", "reading 8 0 1",
            "levels 0 == [4..7]");
        RUNS.run("17: of a HALVED one", "TEXT w8;h0", "reading 8 0 1", "levels 0 == [8,9]", "back 1", "reading 0 0 1",
            "levels 0 == []", "back 1", "reading 14 0 1", "levels 0 == [2,3,6,7]", "back 1", "reading 12 0 1",
            "levels 0 == [4..7]");
        RUNS.run("17: of a BRIGHT one", "TEXT w8;b0", "reading 0 0 1", "levels 0 == [6..9]", "back 1", "reading 8 0 1",
            "levels 0 == [3..5,8,9]", "back 1", "reading 12 0 1", "levels 0 == [2,4,5,7]", "back 1", "reading 14 0 1",
            "levels 0 == [1,2,5,6,9]");
        RUNS.run("17: the others as they are", "TEXT w8;p09", "reading 0 1 0", "levels {0 1} == [] [0..7]", "level 1 7",
            "levels {0 1} == [0..9] [0..7]");
        RUNS.run("17: by all 8 READINGS", "TEXT w8;p0", "reading 0 0 0", "reading 7 0 0", "reading 8 0 1",
            "reading 11 0 1", "reading 12 0 0", "reading 13 0 0", "reading 12 0 0", "reading 14 0 1", "many 4 = 8",
            "levels 0 == [5]", "back 1", "levels 0 == [4,5]");
        RUNS.run("17: the last LAMP", FULL, "reading 0 15 1", "levels {15 14} == [8,9] []");
        RUNS.run("17: a DEAD one is not LIT by any LEVEL", "TEXT w8;p9", "die 0", "reading 0 0 0", "levels 0 == [0..9]",
            "reading 8 0 1", "levels 0 == []");
        RUNS.run("17: UNKNOWN", FULL, "levels {-1 16 FAR} == UNKNOWN");
        RUNS.run("17: UNKNOWN in a WALL of one", "TEXT w8;p9", "levels {1..16} == UNKNOWN");
    }

    private static void cuts() {
        RUNS.run("18: no READINGS: all", FULL, "cuts == [1..8]");
        RUNS.run("18: no READINGS, all DEAD", "TEXT w3;p9", "die 0", "cuts == [1..8]", "reading 0 0 0",
            "cuts == [1..8]", "reading 0 0 1", "cuts == []");
        for (int plane = 0; plane < 4; plane++) {
            for (int t = 0; t < 15; t++) {
                int lit = 0;
                for (int c = 1; c <= 8; c++) {
                    lit |= ByHand.PLANES_BY_CUT[c - 1].charAt(t) - '0' == plane ? 1 << c : 0;
                }
                RUNS.run("18: by one READING", "TEXT w4;p" + (1 << plane), "reading " + t + " 0 1", "cuts == " + lit,
                    "back 1", "reading " + t + " 0 0", "cuts == " + (510 - lit), "reading " + t + " 0 1",
                    "cuts == []");
            }
        }
        RUNS.run("18: CUT as it is may not be among them", "TEXT w8;p4", "reading 1 0 1", "cuts == [1]", "many 5 == 8");
    }

    private static void contradictions() {
        RUNS.run("16 .. 18: READINGS that no WALL could have", "TEXT w3;p5;h6", "reading 0 1 1", "reading 0 1 0",
            "kinds {0 1} == []", "levels {0 1} == []", "cuts == []", "back 1", "kinds {0 1} == [] [2]");
        RUNS.run("16 .. 18: READINGS that the WALL as it is has", FULL, "reading 3 3 1", "reading 8 0 1",
            "reading 0 8 1", "reading 0 0 0", "kinds {0..3} == [0,2] [0..2] [0,2] [0..2]",
            "levels {0 3 8} == [1,3,5,7] [4..7] [6..9]", "cuts == [3]", "cut 8 = 3", "cuts == [3]",
            "kinds {0..3} == []", "levels {0 3 8 15} == []");
    }

    // ---- 19 odds

    private static void oddsEdges() {
        RUNS.run("19: n of 0: 1 by 1", FULL, "odds {0..14} 0 {0 1} == 1");
        RUNS.run("19: more than there are: 0 by 1", "TEXT w3;p123", "odds {0..14} 4 0 == 0", "odds {0..14} 4 1 == 1",
            "odds 0 {5..16} 0 == 0", "odds 0 {5..16} 1 == 1");
        RUNS.run("19: LAMPS that are LIT by no LEVEL: 0 by 1", "TEXT w8;h123", "odds {0..7} 1 0 == 0",
            "odds {0..7} 1 1 == 1", "odds 8 1 {0 1} == 61 125");
        RUNS.run("19: all DEAD: one row, that of none", "TEXT w3;p123", "die 0", "odds 0 0 {0 1} == 1",
            "odds 0 {1 16} 0 == 0", "odds 0 {1 16} 1 == 1");
        RUNS.run("19: without LAMPS of DEAD MODULES", "TEXT w8;p1;b1", "odds 14 2 {0 1} == 1 4",
            "odds 14 1 {0 1} == 3 4", "die 0", "odds 14 2 {0 1} == 0 1", "odds 14 1 {0 1} == 1 2",
            "odds 0 1 {0 1} == 2 5", "die 0", "die 1", "odds 0 1 {0 1} == 1 5");
        RUNS.run("19: LEVELS and READINGS are not looked at", "TEXT w8;p9", "reading 0 0 0", "odds 0 1 {0 1} == 1 5",
            "level 0 0", "odds 0 1 {0 1} == 1 5");
        RUNS.run("19: by CUT", "TEXT w8;p1", "odds {0 1 14} 1 0 == 1 1 1", "odds {0 1 14} 1 1 == 5 5 2", "cut 1",
            "odds {0 1 3 14} 1 0 == 1 2 1 1", "odds {0 1 3 14} 1 1 == 5 5 2 5");
    }

    private static void oddsOfOne() {
        String[] kinds = {"p", "h", "b"};
        int[] units = {14, 12, 8, 0};
        for (int kind = 0; kind < 3; kind++) {
            RUNS.begin("19: one LAMP, in least terms");
            RUNS.tell("TEXT w8;" + kinds[kind] + "0");
            for (int plane = 0; plane < 4; plane++) {
                int lit = 0;
                for (int light : ByHand.LIGHT_BY_LEVEL[kind]) {
                    lit += light >> plane & 1;
                }
                tellShare(units[plane], 1, BigInteger.valueOf(lit), BigInteger.TEN);
            }
        }
    }

    private static void tellShare(int t, int n, BigInteger upper, BigInteger lower) {
        BigInteger common = upper.gcd(lower);
        RUNS.tell("odds " + t + " " + n + " {0 1} = " + upper.divide(common) + " " + lower.divide(common));
    }

    /** Every row of LEVELS of a small WALL is looked at. */
    private static void oddsCounted() {
        String[] texts = {"w8;p0;h0;b0", "w8;b00;h00", "w8;p00;b0;h0;p0"};
        int[][] kindsOf = {{0, 1, 2}, {2, 2, 1, 1}, {0, 0, 2, 1, 0}};
        int[] units = {14, 12, 8, 0};
        for (int k = 0; k < texts.length; k++) {
            RUNS.begin("19: as many rows as there are");
            RUNS.tell("TEXT " + texts[k]);
            for (int plane = 0; plane < 4; plane++) {
                long[] rowsWith = new long[7];
                countRows(kindsOf[k], 0, plane, 0, rowsWith);
                long more = 0;
                for (int n = 6; n >= 0; n--) {
                    more += rowsWith[n];
                    tellShare(units[plane], n, BigInteger.valueOf(more), BigInteger.TEN.pow(kindsOf[k].length));
                }
            }
        }
    }

    private static void countRows(int[] kinds, int from, int plane, int lit, long[] rowsWith) {
        if (from == kinds.length) {
            rowsWith[lit]++;
            return;
        }
        for (int light : ByHand.LIGHT_BY_LEVEL[kinds[from]]) {
            countRows(kinds, from + 1, plane, lit + (light >> plane & 1), rowsWith);
        }
    }

    /** All 16 LAMPS alike: by the formula for it. */
    private static void oddsFull() {
        String[] kinds = {"p", "h", "b"};
        int[] units = {14, 12, 8, 0};
        for (int kind = 0; kind < 3; kind++) {
            String module = ";" + kinds[kind] + "0000";
            for (int plane = 0; plane < 4; plane++) {
                RUNS.begin("19: 16 LAMPS");
                RUNS.tell("TEXT w8" + module + module + module + module);
                final int bit = plane;
                long lit = Arrays.stream(ByHand.LIGHT_BY_LEVEL[kind]).filter(light -> (light >> bit & 1) == 1).count();
                BigInteger upper = BigInteger.ZERO;
                for (int n = 16; n >= 0; n--) {
                    upper = upper.add(choose(16, n).multiply(BigInteger.valueOf(lit).pow(n))
                        .multiply(BigInteger.valueOf(10 - lit).pow(16 - n)));
                    tellShare(units[plane], n, upper, BigInteger.TEN.pow(16));
                }
            }
        }
    }

    private static BigInteger choose(int of, int n) {
        BigInteger ways = BigInteger.ONE;
        for (int k = 0; k < n; k++) {
            ways = ways.multiply(BigInteger.valueOf(of - k)).divide(BigInteger.valueOf(k + 1));
        }
        return ways;
    }

    private static void oddsOrder() {
        RUNS.run("19: OUTSIDE: unit", FULL, "odds {-1 15 16 FAR} {-1 0 16 17} {-1 0 1 2} == LOST");
        RUNS.run("19: OUTSIDE: n", FULL, "odds {0 14} {-1 17 18 FAR} {-1 0 1 2} == LOST");
        RUNS.run("19: OUTSIDE: which", FULL, "odds {0 14} {0 16} {-1 2 FAR} == LOST");
        RUNS.run("19: unit 14, n 16 are inside", FULL, "odds 14 16 {0 1} == 0 1");
    }
}
