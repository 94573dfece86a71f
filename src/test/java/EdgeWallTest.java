import java.util.Arrays;

/** The boundary cases of 'Terms' and of promises 1 to 7, sentence by sentence; the rows are told in Runs. */
public final class EdgeWallTest {
    private static final Runs RUNS = new Runs();
    private static final String DIGITS = "0123456789";

    public static void main(String[] args) {
        newObject();
        withoutWall();
        textCodes();
        textEnds();
        textPlaces();
        wallOrder();
        wallLeaves();
        wallAnew();
        ofModule();
        light();
        ofLamp();
        darkAndTurns();
        level();
        die();
        cut();
        RUNS.end();
    }

    // ---- 1 a new object

    private static void newObject() {
        RUNS.run("1: fault() is 0 ahead of any", "fault = 0");
        RUNS.run("1: TRACE is 0 at first", "trace = 0");
        RUNS.run("1: no WALL, so no MODULES", "many {0 2 4} == 0", "ofModule {-1 0 1 3 4 FAR} {-1 0 4 5} == UNKNOWN",
            "die {-1 0 1 3 4 FAR} == UNKNOWN", "kinds {-1 0 3 4 FAR} == UNKNOWN", "tell {-1 0 3 4 FAR} == UNKNOWN",
            "switchOn {-1 0 3 4 FAR} == UNKNOWN", "as {-1 0 3 4 FAR} {-1 0 2 3} == UNKNOWN");
        RUNS.run("1: no WALL, so no LAMPS", "many {1 3 5} == 0", "ofLamp {-1 0 15 16 FAR} {-1 0 6 7} == UNKNOWN",
            "level {-1 0 15 16 FAR} {-1 0 9 10} == UNKNOWN", "levels {-1 0 15 16 FAR} == UNKNOWN",
            "reading {-1 0 14 15} {-1 0 15 16 FAR} {-1 0 1 2} == UNKNOWN");
        RUNS.run("1: no READINGS", "back 0 == 0", "back {-1 1 8 FAR} == OUTSIDE");
        RUNS.run("1: SHEETS have nothing", "lose {0..3} == 0", "put {0..3} {-1 0 1 59 60 FAR} {0 7} == NULL",
            "cell {0..3} {-1 0 1 59 60 FAR} {0..2} == LOST-NULL",
            "wall {0..3} {0..2} {-1 0 1 FAR} {-1 0 1 FAR} == NULL",
            "copy {0..3} {-1 0 1} {0..3} {-1 0 1} {-1 0 1} == NULL");
    }

    private static void withoutWall() {
        RUNS.run("Terms: STATE, there is no WALL", "cut {1..8} == STATE", "ofUnit {0..14} {0..4} == STATE",
            "slices {-1..3} == STATE", "bears {0..16} == STATE", "steadiest {0..2} == STATE", "cuts == STATE",
            "odds {0 14} {0 1 16} {0 1} == LOST");
        RUNS.run("Terms: OUTSIDE is told ahead of STATE", "cut {0 9 -1 FAR} == OUTSIDE",
            "ofUnit {-1 15 FAR} {-1 0 4 5} == OUTSIDE", "ofUnit {0 14} {-1 5 FAR} == OUTSIDE",
            "slices {-2 4 FAR} == OUTSIDE", "bears {-1 17 FAR} == OUTSIDE", "steadiest {-1 3 FAR} == OUTSIDE");
        String[] sheets = {"ROW 0 0 1 0", "ROW 1 1 10 99", "ROW 2 2", "lose 3"};
        RUNS.run("12: STATE is told ahead of CAST, NULL, INDEX and cells", sheets[0], sheets[1], sheets[2],
            "send {0..3} {0..2} {-1 0 1 61 FAR} {0 1 20} == STATE",
            "send {0..3} {0..2} {-1 0} {-1 21 FAR} == OUTSIDE", "send {0..3} {-1 3 FAR} {-1 0} {0 20 21} == OUTSIDE",
            "send {-1 4 FAR} {-1 0 3} {-1 0} {0 20 21} == UNKNOWN");
        RUNS.run("13: STATE is told ahead of CAST, NULL, INDEX and pairs", sheets[0], sheets[1], sheets[2],
            "day {0..3} {0..2} {-1 0 61 FAR} {0 1 20} {0 4 10 25} == STATE",
            "day {0..3} {0..2} {-1 0} {0 20} {-1 5 9 26 FAR} == OUTSIDE",
            "day {0..3} {0..2} {-1 0} {-1 21 FAR} {0 5} == OUTSIDE",
            "day {0..3} {-1 3 FAR} {-1 0} {0 21} {0 5} == OUTSIDE",
            "day {-1 4 FAR} {-1 0 3} {-1 0} {0 21} {0 5} == UNKNOWN");
        RUNS.run("2: a TEXT with a FIRST FAULT makes no WALL", "TEXT w3;p5; == -106", "many {0..5} == 0",
            "cuts == STATE", "ofLamp 0 1 == UNKNOWN", "ofModule 0 0 == UNKNOWN");
    }

    // ---- 2 wall

    /** Behind a beginning: codes by which it is a whole TEXT, of how many MODULES; codes by which it just goes on. */
    private static final String[][] BEGINNINGS = {
        {"", "", "0", "w"},
        {"w", "", "0", "12345678"},
        {"w1", "", "0", ";"},
        {"w8", "", "0", ";"},
        {"w8;", "", "0", "phb"},
        {"w3;p", DIGITS, "1", ""},
        {"w3;h", DIGITS, "1", ""},
        {"w3;b", DIGITS, "1", ""},
        {"w3;p0", DIGITS, "1", ";"},
        {"w3;h12", DIGITS, "1", ";"},
        {"w3;b123", DIGITS, "1", ";"},
        {"w3;p1234", "", "0", ";"},
        {"w3;p1;", "", "0", "phb"},
        {"w3;p1;h2;b3", DIGITS, "3", ";"},
        {"w3;p1;h2;b3456", "", "0", ";"},
        {"w3;p1;h2;b3;", "", "0", "phb"},
        {"w3;p1;h2;b3;p", DIGITS, "4", ""},
        {"w3;p1;h2;b3;p4", DIGITS, "4", ""},
        {"w3;p1234;h5678;b9012;p345", DIGITS, "4", ""},
        {"w3;p1234;h5678;b9012;p3456", "", "0", ""},
    };

    private static void textCodes() {
        for (String[] beginning : BEGINNINGS) {
            // Cut to a byte, or to a short, these would be codes of a TEXT.
            codesBehind(beginning, 0, -128, 127);
            codesBehind(beginning, 1, -300, 400);
            codesBehind(beginning, 2, 65536, 65536 + 127);
            codesBehind(beginning, 2, -65536, -65536 + 127);
            codesBehind(beginning, 2, Integer.MIN_VALUE, Integer.MIN_VALUE + 127);
        }
    }

    private static void codesBehind(String[] beginning, int lane, int least, int most) {
        String text = beginning[0];
        int place = text.length();
        for (int code = least; code <= most; code++) {
            boolean isWhole = code > 0 && beginning[1].indexOf(code) >= 0;
            boolean goesOn = code > 0 && beginning[3].indexOf(code) >= 0;
            String want = isWhole ? beginning[2] : String.valueOf(-100 - (goesOn ? place + 1 : place));
            RUNS.begin("2: code " + code + " behind '" + text + "'");
            int[] cells = Arrays.copyOf(text.chars().toArray(), place + 1);
            cells[place] = code;
            RUNS.fill(0, lane, cells);
            RUNS.tell("wall 0 " + lane + " 0 " + (place + 1) + " = " + want);
        }
    }

    private static void textEnds() {
        String text = "w3;p1234;h5678;b9012;p3456";
        for (int n = 0; n <= text.length(); n++) {
            boolean ends = n >= 5 && text.charAt(n - 1) >= '0' && text.charAt(n - 1) <= '9';
            String begun = text.substring(0, n);
            long modules = begun.chars().filter(c -> c == ';').count();
            RUNS.run("2: it just ends too soon: how many codes there are", "TEXT " + begun + " = "
                + (ends ? modules : -100 - n));
        }
        RUNS.run("2: the place of the first code with which no TEXT goes on, whatever is behind it",
            "TEXT x3;p1 == -100", "TEXT w9;q1 == -101", "TEXT w3:p1 == -102", "TEXT w3;q1;p1 == -103",
            "TEXT w3;p:;h == -104", "TEXT w3;pp1 == -104", "TEXT w3;p1h2 == -105", "TEXT w3;p1;;h1 == -106",
            "TEXT w3;p1w == -105", "TEXT w3;p12345;h1 == -108", "TEXT w3;p12345;;;; == -108");
        RUNS.run("2: the ; of a fifth MODULE, whole or not", "TEXT w3;p1;p2;p3;p4; == -114",
            "TEXT w3;p1;p2;p3;p4;p5 == -114", "TEXT w3;p1;p2;p3;p4;q == -114",
            "TEXT w3;p1234;h5678;b9012;p3456;p1 == -126", "TEXT w3;p1234;h5678;b9012;p34567 == -126");
        RUNS.run("2: one TEXT alone", "TEXT w3;p1w3;p1 == -105", "TEXT w3;p1;w3;p1 == -106");
    }

    private static void textPlaces() {
        RUNS.run("2: the longest TEXT at the end of a full row", "sheet 2 2 60",
            "put 2 33 48", rowOf(3, 2, "w8;p9999;h0000;b5555;p1234"), "copy 3 0 2 34 26 = 26",
            "wall 2 2 {35 36 59 60} 0 == -100", "wall 2 2 34 {1 2 3} == -101 -102 -103",
            "wall 2 2 34 {27 28 60 256 65536 MAX} == INDEX",
            "wall 2 2 33 27 == -100", "wall 2 2 35 {25 26} == -100 INDEX", "wall 2 2 61 0 == INDEX",
            "wall 2 2 34 26 = 4", "many 1 = 16", "many 5 = 8", "ofLamp {0 3 4 8 12 15} 1 = 9 9 0 5 1 4");
        RUNS.run("2: a TEXT that goes on, of fewer cells", "ROW 0 1 7 119 51 59 112 49 50 51 52 53 7",
            "wall 0 1 1 9 == -108", "wall 0 1 1 8 = 1", "many 1 = 4", "wall 0 1 1 5 = 1", "many 1 = 1",
            "wall 0 1 0 6 == -100", "wall 0 1 2 5 == -100");
    }

    private static String rowOf(int k, int lane, String text) {
        StringBuilder row = new StringBuilder("ROW " + k + " " + lane);
        text.chars().forEach(code -> row.append(' ').append(code));
        return row.toString();
    }

    private static final String[] SHEETS = {"TEXT w3;p53;h9;b60", "die 1", "reading 3 0 1", "tell 2",
        rowOf(0, 0, "w4;b7"), "lose 1", "ROW 2 2 119 52 59 98", "sheet 3 1 0"};

    private static void wallOrder() {
        RUNS.run("2: UNKNOWN ahead of OUTSIDE, SIZE, INDEX", Runs.with(SHEETS,
            "wall {-1 4 FAR} {-1 0 3} {-1 0 99} {-1 0 5 99} == UNKNOWN"));
        RUNS.run("2: OUTSIDE: lane, ahead of CAST, NULL, SIZE, INDEX", Runs.with(SHEETS,
            "wall {0..3} {-1 3 FAR} {-1 0 99} {-1 0 5 99} == OUTSIDE"));
        RUNS.run("2: CAST ahead of SIZE, INDEX, FIRST FAULT", Runs.with(SHEETS,
            "wall 0 {1 2} {-1 0 5 6 FAR} {-1 0 5 6 FAR} == CAST", "wall 2 {0 1} {-1 0 5 FAR} {-1 0 5 FAR} == CAST",
            "wall 3 {0 2} {-1 0 1 FAR} {-1 0 1 FAR} == CAST"));
        RUNS.run("2: nothing is no CAST: NULL, ahead of SIZE, INDEX", Runs.with(SHEETS,
            "wall 1 {0..2} {-1 0 1 FAR} {-1 0 1 FAR} == NULL"));
        RUNS.run("2: SIZE: n below 0, ahead of INDEX", Runs.with(SHEETS,
            "wall 0 0 {-1 0 5 6 FAR} {-1 -2 -256 -65536 MIN} == SIZE", "wall 3 1 {-1 0 1} {-1 MIN} == SIZE"));
        RUNS.run("2: INDEX, ahead of FIRST FAULT", Runs.with(SHEETS, "wall 0 0 {-1 6 FAR} {0 1 5 MAX} == INDEX",
            "wall 0 0 0 {6 7 60 61 MAX} == INDEX", "wall 0 0 1 {5 MAX} == INDEX", "wall 0 0 5 {1 MAX} == INDEX",
            "wall 2 2 0 5 == INDEX", "wall 2 2 {5 -1} 0 == INDEX"));
        RUNS.run("2: INDEX where none is taken: i is 0 .. how many there are", Runs.with(SHEETS,
            "wall 0 0 {0..5} 0 == -100", "wall 0 0 {-1 6} 0 == INDEX", "wall 3 1 0 0 == -100",
            "wall 3 1 {-1 1} 0 == INDEX", "wall 3 1 0 1 == INDEX"));
        RUNS.run("2: all of a row", Runs.with(SHEETS, "wall 2 2 0 4 == -104", "wall 0 0 0 5 = 1", "fault = 0"));
    }

    private static void wallLeaves() {
        RUNS.run("2: with a FIRST FAULT nothing is changed", "TEXT w3;p53;h9;b60", "die 0", "die 2", "reading 3 0 1",
            "reading 0 3 0", "cut 5", "level 1 8", "switchOn 1", "TEXT == -100", "TEXT w == -101", "TEXT w1 == -102",
            "TEXT w1;b == -104", "TEXT w1;b1;h2;p3;p4; == -114", "TEXT w1;b1234;b1234;b1234;b1234x == -126");
    }

    private static void wallAnew() {
        RUNS.run("2: a TEXT that is taken makes all anew", "TEXT w3;p53;h9;b601;p7", "die {0..3}", "reading {0..7} 0 0",
            "level {0..6} 9", "cut 8", "kinds 0", "levels 0", "cuts", "steadiest 1", "day 3 0 0 0 0 = 0", "TEXT w2;b4",
            "many {0..5} = 1 1 0 6 0 2", "ofModule 0 {0..4} = 2 1 0 0 0",
            "ofLamp 0 1 = 4", "ofModule {1..3} 0 == UNKNOWN", "ofLamp {1..15} 0 == UNKNOWN", "levels 0 == [0..9]",
            "kinds 0 == [0..2]", "cuts == [1..8]", "reading 0 0 1 = 0");
        RUNS.run("2: the same TEXT once more makes it anew, too", "TEXT w3;p53", "die 0", "reading 0 1 1", "level 0 9",
            "cut 1", "wall 3 0 0 6 = 1", "many {0..5} = 1 2 0 8 0 3");
        RUNS.run("2: SHEETS and TRACE are not of the WALL", "TEXT w3;p5", "tell 0", "ROW 1 2 7 8", "wall 3 0 0 5 = 1",
            "trace = 1", "cell 1 {0 1} 2 = 7 8", "cell 3 0 0 = 119");
        RUNS.run("2: a cell put later is not of the WALL", "TEXT w3;p5", "put 3 4 57", "ofLamp 0 1 = 5", "lose 3 = 1",
            "ofLamp 0 1 = 5", "many 0 = 1");
    }

    // ---- 3 ofModule

    private static void ofModule() {
        String full = "TEXT w3;p1;h23;b456;p7890";
        RUNS.run("3: 4 MODULES of 1 .. 4 LAMPS", full, "ofModule {0..3} 0 == 0 1 2 0", "ofModule {0..3} 1 == 1 2 3 4",
            "ofModule {0..3} 2 == 0 1 3 6", "ofModule {0..3} 3 == 0", "ofModule {0..3} 4 == 0 1 2 3");
        RUNS.run("3: UNKNOWN, ahead of OUTSIDE", full, "ofModule {-1 4 5 FAR} {-1 0 4 5 FAR} == UNKNOWN");
        RUNS.run("3: OUTSIDE", full, "ofModule {0..3} {-1 5 6 FAR} == OUTSIDE");
        RUNS.run("3: UNKNOWN in a WALL of one", "TEXT w3;p1", "ofModule {1..4} 0 == UNKNOWN",
            "ofModule 0 {0..4} == 0 1 0 0 0");
        for (int dead = 0; dead < 16; dead++) {
            RUNS.begin("3: DEAD, and the place among those that are not");
            RUNS.tell(full);
            int place = 0;
            for (int m = 0; m < 4; m++) {
                if ((dead >> m & 1) == 1) {
                    RUNS.tell("die " + m + " = 1");
                }
            }
            for (int m = 0; m < 4; m++) {
                boolean isDead = (dead >> m & 1) == 1;
                RUNS.tell("ofModule " + m + " 3 = " + (isDead ? 1 : 0));
                RUNS.tell("ofModule " + m + " 4 = " + (isDead ? "NONE" : String.valueOf(place)));
                place += isDead ? 0 : 1;
            }
            RUNS.tell("ofModule {0..3} 0 = 0 1 2 0");
            RUNS.tell("ofModule {0..3} 1 = 1 2 3 4");
            RUNS.tell("ofModule {0..3} 2 = 0 1 3 6");
            RUNS.tell("many 2 = " + Integer.bitCount(dead));
        }
    }

    // ---- 4 ofLamp

    private static void light() {
        String[] all = {"0123", "4567", "89"};
        RUNS.run("4: LIGHT of a PLAIN one is LEVEL", "TEXT w3;p0123;p4567;p89",
            "ofLamp {0..9} 2 == 0 1 2 3 4 5 6 7 8 9");
        RUNS.run("4: LIGHT of a HALVED one is half of it, cut", "TEXT w3;h0123;h4567;h89",
            "ofLamp {0..9} 2 == 0 0 1 1 2 2 3 3 4 4");
        RUNS.run("4: LIGHT of a BRIGHT one is both together", "TEXT w3;b0123;b4567;b89",
            "ofLamp {0..9} 2 == 0 1 3 4 6 7 9 10 12 13");
        for (String kind : new String[] {"p", "h", "b"}) {
            RUNS.run("4: LAMPS of a DEAD MODULE have LIGHT 0",
                "TEXT w3;" + kind + all[0] + ";" + kind + all[1] + ";" + kind + all[2], "die 1 = 1",
                "ofLamp {4..7} 2 == 0", "ofLamp {4..7} 1 == 4 5 6 7", "ofLamp {4..7} 3 == 15", "ofLamp {4..7} 4 == 0",
                "ofLamp {4..7} 5 == []", "ofLamp {4..7} 6 == []");
        }
    }

    private static void ofLamp() {
        String full = "TEXT w3;p1234;h5678;b9012;p3456";
        RUNS.run("4: 16 LAMPS through all MODULES", full, "ofLamp {0..15} 0 == 0 0 0 0 1 1 1 1 2 2 2 2 3 3 3 3",
            "ofLamp {0..15} 1 == 1 2 3 4 5 6 7 8 9 0 1 2 3 4 5 6",
            "ofLamp {0..15} 2 == 1 2 3 4 2 3 3 4 13 0 1 3 3 4 5 6");
        RUNS.run("4: UNKNOWN, ahead of OUTSIDE", full, "ofLamp {-1 16 17 FAR} {-1 0 6 7 FAR} == UNKNOWN");
        RUNS.run("4: OUTSIDE", full, "ofLamp {0 7 15} {-1 7 8 FAR} == OUTSIDE");
        RUNS.run("4: UNKNOWN in a WALL of one", "TEXT w3;p1", "ofLamp {1..16} {0 6} == UNKNOWN");
        RUNS.run("4: the first LAMP of a MODULE has none ahead of it", "TEXT w8;p9;p0;p90;p0", "ofLamp {0..4} 6 == "
            + "[] [] [] [0..7,14] []");
        RUNS.run("4: it GHOSTS not where it is LIT", "TEXT w8;p9513",
            "ofLamp {0..3} 5 == [0..7,14] [8..11,14] [14] [12..14]", "ofLamp {0..3} 6 == [] [0..7] [8..11] []");
        RUNS.run("4: a LAMP GHOSTS behind the one ahead of it alone", "TEXT w8;p8000",
            "ofLamp {0..3} 6 == [] [0..7] [] []");
    }

    /** PLANES of units 0 .. 14 by CUT 1 .. 8, and what is worked out from this row by hand: DARK and TURNS. */
    private static void darkAndTurns() {
        // LIGHT 0 1 2 3 4 5 6 7 8 9: in one WALL of PLAIN LAMPS; 10, 12, 13 by BRIGHT ones of LEVEL 7, 8, 9.
        String text = ";p0123;p4567;p89;b789";
        // 321032132323333
        RUNS.run("4: by CUT 1", "TEXT w1" + text, "ofLamp {0..12} 3 == 15 14 10 10 5 5 5 5 3 2 1 2 1",
            "ofLamp {0..12} 4 == 0 2 4 4 8 10 8 8 8 8 10 4 4");
        // 333333332222110
        RUNS.run("4: by CUT 8", "TEXT w8" + text, "ofLamp {0..12} 3 == 15 14 13 12 11 8 9 8 7 6 4 3 2",
            "ofLamp {0..12} 4 == 0 2 2 2 2 4 2 2 2 2 4 2 2");
        // 333222110333233
        RUNS.run("4: by CUT 3", "TEXT w3" + text, "ofLamp {0..12} 3 == 15 14 13 12 6 5 5 5 6 5 3 3 2",
            "ofLamp {0..12} 4 == 0 2 2 2 4 6 4 4 4 4 6 2 2");
        RUNS.run("4: never LIT: DARK 15, TURNS 0", "TEXT w1;p0;h01;b0", "ofLamp {0..3} 3 == 15",
            "ofLamp {0..3} 4 == 0");
    }

    // ---- 5 level, 6 die, 7 cut

    private static void level() {
        String full = "TEXT w3;p1234;h5678;b9012;p3456";
        RUNS.run("5: what it was, of the first and the last LAMP", full, "level 0 0 = 1", "level 0 9 = 0",
            "level 0 9 = 9", "level 15 9 = 6", "level 15 0 = 9", "ofLamp {0 1 14 15} 1 = 9 2 5 0");
        RUNS.run("5: UNKNOWN, ahead of OUTSIDE", full, "level {-1 16 FAR} {-1 0 9 10 FAR} == UNKNOWN");
        RUNS.run("5: OUTSIDE", full, "level {0 7 15} {-1 10 FAR} == OUTSIDE");
        RUNS.run("5: of a DEAD MODULE, too", full, "die 3", "level 15 2 = 6", "ofLamp 15 2 = 0", "die 3",
            "ofLamp 15 2 = 2");
        RUNS.run("5: each LEVEL", "TEXT w3;p0", "level 0 {1..9} = 0 1 2 3 4 5 6 7 8", "level 0 {8 0} = 9 8");
        RUNS.run("5: names no FAULT", full, "put 0 0 0 = NULL", "level 0 5 = 1", "fault = 1");
    }

    private static void die() {
        RUNS.run("6: 1, 0, of the first and the last MODULE", "TEXT w3;p12;h34;b56;p78", "die 0 = 1", "die 3 = 1",
            "many 2 = 2", "ofModule {0..3} 3 = 1 0 0 1", "die 0 = 0", "die 0 = 1", "die 3 = 0", "many 2 = 1");
        RUNS.run("6: UNKNOWN", "TEXT w3;p12;h34;b56;p78", "die {-1 4 5 FAR} == UNKNOWN");
        RUNS.run("6: UNKNOWN in a WALL of one", "TEXT w3;p12", "die {1..4} == UNKNOWN");
        RUNS.run("6: all DEAD: there is a WALL", "TEXT w3;p12;h34", "die {0 1} = 1", "many {0..5} = 2 4 2 0 0 3",
            "cut 4 = 3", "bears 0 = 15", "steadiest {0..2} = 1 60 60", "cuts = [1..8]");
        RUNS.run("6: READINGS and LEVELS stay", "TEXT w3;p12;h34", "reading 0 0 0", "die 0 = 1", "many 4 = 1",
            "ofLamp {0..3} 1 = 1 2 3 4", "die 0 = 0", "many 4 = 1", "many 3 = 6");
    }

    private static void cut() {
        RUNS.run("7: what it was, 1 .. 8", "TEXT w3;p12", "cut {1..8} = 3 1 2 3 4 5 6 7", "cut {8 1 1} = 8 8 1",
            "many 5 = 1");
        RUNS.run("7: OUTSIDE", "TEXT w3;p12", "cut {-1 0 9 10 FAR} == OUTSIDE");
        RUNS.run("7: READINGS and LEVELS stay", "TEXT w3;p12", "reading 0 0 0", "cut 8 = 3",
            "many {0..5} = 1 2 0 3 1 8", "ofLamp {0 1} 1 = 1 2");
        RUNS.run("7: with all DEAD", "TEXT w3;p12", "die 0", "cut 7 = 3", "many 5 = 7");
    }
}
