/** The boundary cases of promises 8 to 13, sentence by sentence; the rows are told in Runs. */
public final class EdgeFrameTest {
    private static final Runs RUNS = new Runs();
    private static final String FULL = "TEXT w3;p1234;h5678;b9012;p3456";
    /** All that LIGHT can be, in order: 0 .. 10, 12, 13. */
    private static final String LIGHTS = ";p0123;p4567;p89;b789";

    public static void main(String[] args) {
        frames();
        ofUnit();
        slices();
        bears();
        steadiest();
        sendCounts();
        sendCells();
        sendOrder();
        dayLives();
        dayFull();
        dayPairs();
        dayWrong();
        dayWhats();
        dayOrder();
        RUNS.end();
    }

    // ---- 8 ofUnit, 9 slices

    private static void frames() {
        for (int c = 1; c <= 8; c++) {
            String[] planes = ByHand.PLANES_BY_CUT[c - 1].split("");
            String[] slices = ByHand.SLICES_BY_CUT[c - 1].split("");
            RUNS.run("8: the FRAME, by a CUT of the TEXT", "TEXT w" + c + ";p5",
                "ofUnit {0..14} 0 == " + String.join(" ", planes), "ofUnit {0..14} 3 == " + String.join(" ", slices));
            RUNS.run("8: the FRAME, by a CUT told anew", "TEXT w" + (9 - c) + ";p5", "cut " + c + " = " + (9 - c),
                "ofUnit {0..14} 0 == " + String.join(" ", planes), "ofUnit {0..14} 3 == " + String.join(" ", slices));
            RUNS.run("8: a LAMP is LIT in as many units as LIGHT", "TEXT w" + c + LIGHTS);
            int[] lights = {0, 1, 2, 3, 4, 5, 6, 7, 8, 9, 10, 12, 13};
            for (int l = 0; l < lights.length; l++) {
                StringBuilder units = new StringBuilder();
                for (int t = 0; t < 15; t++) {
                    boolean lit = (lights[l] >> Integer.parseInt(planes[t]) & 1) == 1;
                    units.append(!lit ? "" : units.length() == 0 ? "" + t : "," + t);
                }
                RUNS.tell("ofLamp " + l + " 5 = [" + units + "]");
            }
        }
    }

    private static void ofUnit() {
        RUNS.run("8: all 16 LAMPS LIT", "TEXT w8;p8989;b6767;b6677;p9999", "ofUnit {0 7} 1 == 16",
            "ofUnit {0 7} 2 == [0..15]", "ofUnit {0 7} 4 == 0");
        RUNS.run("8: no LAMP LIT", "TEXT w8;p0000;h1111;b0000;p0", "ofUnit {0..14} 1 == 0", "ofUnit {0..14} 2 == []",
            "ofUnit {0..14} 4 == 0");
        RUNS.run("8: the most LAMPS that GHOST", "TEXT w8;p8080;p8080;p8080;p8080",
            "ofUnit {0..14} 4 == 8 8 8 8 8 8 8 8 0 0 0 0 0 0 0", "ofUnit {0 7 8} 1 == 8 8 0",
            "ofUnit 0 2 == [0,2,4,6,8,10,12,14]");
        RUNS.run("8: none GHOSTS behind another MODULE", "TEXT w8;p8;p0;p8;p0", "ofUnit {0..14} 4 == 0",
            "ofUnit 0 2 == [0,2]");
        RUNS.run("8: LAMPS of a DEAD MODULE", "TEXT w8;p80;p80", "die 0", "ofUnit 0 {1 2 4} == 1 [2] 1", "die 1",
            "ofUnit 0 {0..4} == 3 0 [] 0 0");
        RUNS.run("8: OUTSIDE", FULL, "ofUnit {-1 15 16 FAR} {-1 0 4 5} == OUTSIDE",
            "ofUnit {0 7 14} {-1 5 6 FAR} == OUTSIDE");
    }

    private static void slices() {
        String[] want = {"15 1 2 4 8", "8 1 1 2 4", "7 1 1 2 3", "5 1 1 1 2", "5 1 1 1 2", "5 1 1 1 2", "5 1 1 1 2",
            "4 1 1 1 1"};
        for (int c = 1; c <= 8; c++) {
            RUNS.run("9: how many SLICES, all and of PLANES 0 .. 3", "TEXT w" + c + ";p0",
                "slices {-1..3} == " + want[c - 1]);
        }
        RUNS.run("9: OUTSIDE", FULL, "slices {-2 4 5 FAR} == OUTSIDE");
    }

    // ---- 10 bears, 11 steadiest

    private static void bears() {
        String[] texts = {"p0", "p1", "p2", "p3", "p4", "p5", "p6", "p7", "p8", "p9", "b7", "b8", "b9"};
        int[] want = {15, 14, 7, 4, 3, 2, 2, 2, 1, 1, 1, 1, 1};
        for (int k = 0; k < texts.length; k++) {
            RUNS.run("10: BEARS of 0: the greatest g by which LIGHT is 0", "TEXT w3;" + texts[k],
                "bears 0 == " + want[k], "bears {1..16} == 15");
        }
        RUNS.run("10: 16 LAMPS alike", "TEXT w3;p9999;p9999;p9999;p9999", "bears {0..15} == 1", "bears 16 == 15");
        RUNS.run("10: by LIGHT, without DEAD ones", "TEXT w3;p99;p99", "bears {1 2 3 4} == 1 1 1 15", "die 0",
            "bears {1 2 3 4} == 1 15 15 15", "die 1", "bears {0 1} == 15");
        RUNS.run("10: a greater g that is borne, though a lesser one is not", "TEXT w3;p97",
            "bears {0 1 2} == 1 14 15");
        for (int c = 1; c <= 8; c++) {
            RUNS.run("10: by any CUT", "TEXT w" + c + ";p97", "bears {0 1 2} == 1 14 15");
        }
        RUNS.run("10: OUTSIDE", FULL, "bears {-1 17 18 FAR} == OUTSIDE");
    }

    private static void steadiest() {
        RUNS.run("11: of several the least CUT", "TEXT w8;p0000;h0000;b0000;p0000", "steadiest {0..2} == 1 240 240");
        RUNS.run("11: by CUT as it is", "TEXT w1" + LIGHTS, "steadiest {0..2} == 1 78 78", "cut 3",
            "steadiest {0..2} == 1 78 94", "cut 8", "steadiest {0..2} == 1 78 112");
        RUNS.run("11: DEAD ones are dark", "TEXT w8;p9;p9", "steadiest {1 2} == 4 12", "die 0",
            "steadiest {1 2} == 17 21", "die 1", "steadiest {0..2} == 1 30 30");
        RUNS.run("11: OUTSIDE", FULL, "steadiest {-1 3 4 FAR} == OUTSIDE");
    }

    // ---- 12 send

    private static final String TWENTY = "ROW 0 2 9 8 7 6 5 4 3 2 1 0 1 2 3 4 5 6 7 8 9 0";

    private static void sendCounts() {
        String[] levels = {"1 2 3 4 5 6 7 8 9 0 1 2 3 4 5 6", "9 8 7 6 5 6 7 8 9 0 1 2 3 4 5 6",
            "9 8 7 6 5 4 3 2 9 0 1 2 3 4 5 6", "9 8 7 6 5 4 3 2 1 0 1 2 3 4 5 6", "9 8 7 6 5 4 3 2 1 0 1 2 3 4 5 6"};
        for (int n = 0; n <= 20; n++) {
            int whole = Math.min(4, n / 4);
            RUNS.run("12: 0 .. 20 numbers for 4 MODULES of 4 LAMPS", FULL, TWENTY,
                "send 0 2 0 " + n + " = " + (n - 4 * whole), "fault = 0", "ofLamp {0..15} 1 = " + levels[whole]);
        }
        String unlike = "TEXT w3;p00;h000;b0;p0000";
        RUNS.run("12: of a MODULE for which not as many are left none, and of all behind it", unlike, TWENTY,
            "send 0 2 0 4 = 2", "ofLamp {0..9} 1 = 9 8 0 0 0 0 0 0 0 0", "send 0 2 0 5 = 0",
            "ofLamp {0..9} 1 = 9 8 7 6 5 0 0 0 0 0", "send 0 2 0 6 = 0", "ofLamp 5 1 = 4", "send 0 2 0 9 = 3",
            "ofLamp {5..9} 1 = 4 0 0 0 0", "send 0 2 0 10 = 0", "ofLamp {6..9} 1 = 3 2 1 0");
        RUNS.run("12: fewer than the first one takes", unlike, TWENTY, "send 0 2 0 1 == 1", "send 0 2 0 0 == 0");
        RUNS.run("12: past a DEAD one, for which not as many are left", unlike, TWENTY, "die 1", "send 0 2 0 3 = 0",
            "ofLamp {0..9} 1 = 9 8 0 0 0 7 0 0 0 0", "send 0 2 3 7 = 0", "ofLamp {0..9} 1 = 6 5 0 0 0 4 3 2 1 0");
        RUNS.run("12: past the first and the last", unlike, TWENTY, "die 0", "die 3", "send 0 2 0 20 = 16",
            "ofLamp {0..9} 1 = 0 0 9 8 7 6 0 0 0 0", "many 2 = 2");
        RUNS.run("12: all DEAD: nobody takes any", unlike, TWENTY, "die {0..3}", "send 0 2 0 {0 1 10 20} == 0 1 10 20");
        RUNS.run("12: LIGHT by what was taken", "TEXT w3;h00;b0", TWENTY, "send 0 2 0 3 = 0",
            "ofLamp {0..2} 2 = 4 4 10", "many 3 = 18");
        RUNS.run("12: READINGS, CUT stay", "TEXT w3;h00;b0", "reading 0 0 0", TWENTY, "send 0 2 0 3 = 0",
            "many {2 4 5} = 0 1 3", "trace = 0");
    }

    private static void sendCells() {
        RUNS.run("12: numbers 0 .. 9", "TEXT w3;p5555", "ROW 0 1 0 9 1 8", "send 0 1 0 4 = 0",
            "ofLamp {0..3} 1 = 0 9 1 8");
        for (String number : new String[] {"-1", "10", "MIN", "MAX", "-65536", "256"}) {
            RUNS.run("12: OUTSIDE: a cell is not 0 .. 9, first, last, or one that nobody would take",
                "TEXT w3;p55;h66", "ROW 0 2 1 2 3 4 5 " + number, "ROW 1 2 " + number + " 1 2 3 4",
                "send 0 2 0 6 == OUTSIDE", "send 0 2 2 4 == OUTSIDE", "send 0 2 5 1 == OUTSIDE",
                "send 1 2 0 {1 4 5} == OUTSIDE", "send 0 2 0 5 = 1", "ofLamp {0..3} 1 = 1 2 3 4", "send 1 2 1 4 = 0");
            RUNS.run("12: OUTSIDE, if all are DEAD, too", "TEXT w3;p55", "die 0", "ROW 0 2 " + number,
                "send 0 2 0 1 == OUTSIDE", "send 0 2 0 0 == 0", "send 0 2 1 0 == 0");
        }
        RUNS.run("12: what a cell was cut to", "TEXT w3;p55", "ROW 0 0 260 -249", "ROW 1 1 65539 -65536",
            "send 0 0 0 2 = 0", "ofLamp {0 1} 1 = 4 7", "send 1 1 0 2 = 0", "ofLamp {0 1} 1 = 3 0");
        RUNS.run("12: cells from i on, at the end of a full row", "TEXT w3;p55", "sheet 2 1 60", "put 2 58 3",
            "put 2 59 4", "put 2 0 77", "send 2 1 58 2 = 0", "ofLamp {0 1} 1 = 3 4", "send 2 1 40 20 = 18",
            "send 2 1 59 2 == INDEX", "send 2 1 60 {0 1} == 0 INDEX", "send 2 1 61 0 == INDEX",
            "send 2 1 41 20 == INDEX", "send 2 1 0 1 == OUTSIDE");
    }

    private static final String[] SHEETS = {"TEXT w3;p53;h9;b60", "die 1", "reading 3 0 1", "tell 2",
        "ROW 0 0 7 0 99 1", "lose 1", "ROW 2 2 5 1", "sheet 3 1 0"};

    private static void sendOrder() {
        RUNS.run("12: UNKNOWN: SHEET, ahead of OUTSIDE", Runs.with(SHEETS,
            "send {-1 4 FAR} {-1 0 3} {-1 0 99} {-1 0 20 21} == UNKNOWN"));
        RUNS.run("12: OUTSIDE: lane, ahead of FAULTS", Runs.with(SHEETS,
            "send {0..3} {-1 3 FAR} {-1 0 99} {-1 0 20 21} == OUTSIDE"));
        RUNS.run("12: OUTSIDE: n, ahead of FAULTS", Runs.with(SHEETS,
            "send {0..3} {0..2} {-1 0 99} {-1 21 FAR} == OUTSIDE"));
        RUNS.run("12: CAST, ahead of INDEX and cells", Runs.with(SHEETS,
            "send 0 {1 2} {-1 0 2 4 5 FAR} {0 1 20} == CAST", "send 2 {0 1} {-1 0 3 FAR} {0 1 20} == CAST",
            "send 3 {0 2} {-1 0 1} {0 1 20} == CAST"));
        RUNS.run("12: NULL (nothing is no CAST), ahead of INDEX", Runs.with(SHEETS,
            "send 1 {0..2} {-1 0 1 FAR} {0 1 20} == NULL"));
        RUNS.run("12: INDEX, ahead of cells", Runs.with(SHEETS, "send 0 0 {-1 5 FAR} {0 1 20} == INDEX",
            "send 0 0 {1 2} {4 20} == INDEX", "send 0 0 0 {5 20} == INDEX", "send 0 0 4 {1 20} == INDEX",
            "send 2 2 1 2 == INDEX"));
        RUNS.run("12: INDEX where none is taken", Runs.with(SHEETS, "send 0 0 {0..4} 0 == 0",
            "send 0 0 {-1 5} 0 == INDEX", "send 3 1 0 0 == 0", "send 3 1 {-1 1} 0 == INDEX",
            "send 3 1 0 1 == INDEX"));
        RUNS.run("12: OUTSIDE: a cell", Runs.with(SHEETS, "send 0 0 0 {3 4} == OUTSIDE", "send 0 0 2 {1 2} == OUTSIDE",
            "send 0 0 3 1 == 1", "send 0 0 0 2 = 0", "ofLamp {0 1} 1 = 7 0"));
    }

    // ---- 13 day

    private static void dayLives() {
        String wall = "TEXT w8;p90";
        RUNS.run("13: a DAY of 0 pairs is how all is now", wall, "ROW 0 1", "day 0 1 0 0 {0..4} == 9 NONE 1 21 9",
            "day 0 1 0 0 {10..25} == 9 0 NONE NONE NONE NONE NONE NONE NONE NONE NONE NONE NONE NONE NONE NONE");
        RUNS.run("13: a LEVEL and a LAMP", wall, "ROW 0 1 9 1 0 0", "day 0 1 0 1 {0..4} == 18 NONE 2 12 0",
            "day 0 1 0 2 {0..4} == 9 NONE 1 21 0", "day 0 1 0 1 {10 11} == 9 9", "day 0 1 0 2 {10 11} == 0 9");
        RUNS.run("13: a CUT and 20", wall, "ROW 0 1 1 20 8 20", "day 0 1 0 1 {0..4} == 9 NONE 1 17 9",
            "day 0 1 0 2 {0..4} == 9 NONE 1 21 9");
        RUNS.run("13: 0 and 30: it is DEAD, if it was not; else it comes back", wall, "ROW 0 1 0 30 0 30 0 30",
            "day 0 1 0 1 {0..4} == 0 NONE 0 30 0", "day 0 1 0 2 {0..4} == 9 NONE 1 21 9", "day 0 1 0 3 {0 3} == 0 30",
            "die 0 = 1", "day 0 1 0 0 {0..4} == 0 NONE 0 30 0", "day 0 1 0 1 {0..4} == 9 NONE 1 21 9",
            "day 0 1 0 2 {0 3} == 0 30", "day 0 1 0 0 10 == 9");
        RUNS.run("13: from how all is now", wall, "ROW 0 1 9 1", "level 0 8", "cut 1",
            "day 0 1 0 0 {0..4} == 8 NONE 1 18 8", "day 0 1 0 1 {0..4} == 17 NONE 2 5 0", "ROW 1 1 4 6",
            "send 1 1 0 2", "day 0 1 0 1 {0 10 11} == 13 4 9");
        RUNS.run("13: a LEVEL told while its MODULE is DEAD", wall, "ROW 0 1 0 30 9 1 0 30",
            "day 0 1 0 2 {0 11} == 0 9", "day 0 1 0 3 {0 11} == 18 9");
        RUNS.run("13: one DAY is not ahead of another", wall, "ROW 0 1 0 0 0 30", "day 0 1 0 2 0 = 0",
            "day 0 1 0 0 0 = 9", "day 0 1 2 1 0 = 0", "day 0 1 0 1 {0 10} = 0 0", "many {0..5} = 1 2 0 9 0 8");
    }

    private static void dayFull() {
        RUNS.run("13: 20 pairs, 40 cells at the end of a full row", FULL, "sheet 2 0 60", twentyPairs(),
            "copy 1 0 2 20 40 = 40", "lose 1", "day 2 0 20 20 1 == NONE", "day 2 0 20 20 0 == 70",
            "day 2 0 20 20 {10..25} == 0 9 0 9 0 9 0 9 0 9 0 9 0 9 0 9", "day 2 0 22 20 1 == INDEX",
            "day 2 0 21 20 1 == INDEX", "day 2 0 60 0 1 == NONE", "day 2 0 61 0 1 == INDEX", "day 2 0 58 1 1 == NONE",
            "day 2 0 {59 60} 1 1 == INDEX", "day 2 0 20 {-1 21} 1 == OUTSIDE");
        RUNS.run("13: 16 LAMPS: none is wrong", FULL, "ROW 0 2 0 0 9 15", "day 0 2 0 {1 2} 1 == NONE",
            "day 0 2 0 2 {10 25} == 0 9");
        RUNS.run("13: 15 LAMPS: LAMP 15 is wrong", "TEXT w3;p1234;h5678;b9012;p345", "ROW 0 2 0 14 9 15",
            "day 0 2 0 {1 2} 1 == NONE 1", "day 0 2 0 2 {0 2 3 4 10 24 25} == -101",
            "day 0 2 2 1 {0 1 25} == -100 0 -100", "day 0 2 0 1 {24 25} == 0 NONE");
        RUNS.run("13: 4 MODULES: 33 is not wrong", FULL, "ROW 0 2 0 30 0 31 0 32 0 33",
            "day 0 2 0 4 {0..4} == 0 NONE 0 240 0", "day 0 2 6 1 {0 1} == 39 NONE");
        RUNS.run("13: 3 MODULES: 33 is wrong", "TEXT w3;p1;h2;b3", "ROW 0 2 0 30 0 31 0 32 0 33",
            "day 0 2 0 {0..4} 1 == NONE NONE NONE NONE 3", "day 0 2 0 4 {0 2 3 4 10 25} == -103", "day 0 2 0 3 0 == 0");
        RUNS.run("13: 1 MODULE: 31 is wrong", "TEXT w3;p1", "ROW 0 2 0 31 0 30", "day 0 2 0 1 {0 1} == -100 0",
            "day 0 2 2 1 {0 1} == 0 NONE");
    }

    /** 20 pairs: LAMPS 0 .. 15 get 0, 9, 0, 9 .., then CUT 1, MODULE 0 dies and comes back, CUT 8. */
    private static String twentyPairs() {
        StringBuilder row = new StringBuilder("ROW 1 0");
        for (int l = 0; l < 16; l++) {
            row.append(l % 2 == 0 ? " 0 " : " 9 ").append(l);
        }
        return row.append(" 1 20 0 30 0 30 8 20").toString();
    }

    private static void dayPairs() {
        String wall = "TEXT w8;p90;h1;b2;p3";
        for (int second = -2; second <= 36; second++) {
            boolean known = second >= 0 && second <= 15 || second == 20 || second >= 30 && second <= 33;
            if (!known) {
                RUNS.run("13: OUTSIDE: the second is not 0 .. 15, 20, 30 .. 33", wall,
                    "ROW 0 2 0 " + second + " 1 " + second, "day 0 2 {0 2} 1 {0 1 10} == OUTSIDE",
                    "day 0 2 0 2 1 == OUTSIDE", "day 0 2 {0 2 4} 0 1 == NONE");
            }
        }
        for (String second : new String[] {"MIN", "MAX", "-256", "256", "-65536", "65536", "276", "286"}) {
            RUNS.run("13: OUTSIDE: the second is far off", wall, "ROW 0 2 0 " + second,
                "day 0 2 0 1 {0 1 10} == OUTSIDE");
        }
        firstOf(wall, "0", "0 1 2 3 4 5 6 7 8 9", "-1 10 11 MIN MAX -256 256 65536");
        firstOf(wall, "4", "0 9", "-1 10 MIN MAX -256 256 65536");
        firstOf(wall, "20", "1 2 3 4 5 6 7 8", "-1 0 9 10 MIN MAX -255 257 65537");
        firstOf(wall, "30", "0", "-1 1 2 9 MIN MAX -256 256 65536");
        firstOf(wall, "33", "0", "-1 1 9 MIN MAX -256 256 65536");
        RUNS.run("13: what a cell was cut to", wall, "ROW 0 0 265 256 264 276", "ROW 1 1 65536 65566",
            "day 0 0 0 2 {0 1 3 10} == " + "15 NONE 60 9", "day 1 1 0 1 0 == 6");
        RUNS.run("13: pairs behind the n-th are not looked at", wall, "ROW 0 2 0 0 99 99",
            "day 0 2 0 1 {0 1} == 6 NONE", "day 0 2 0 2 {0 1} == OUTSIDE", "day 0 2 2 1 1 == OUTSIDE",
            "day 0 2 1 1 1 == OUTSIDE");
    }

    private static void firstOf(String wall, String second, String inside, String outside) {
        for (String first : inside.split(" ")) {
            RUNS.run("13: the first is as told with " + second, wall, "ROW 0 2 " + first + " " + second,
                "day 0 2 0 1 1 == NONE");
        }
        for (String first : outside.split(" ")) {
            RUNS.run("13: OUTSIDE: the first is not as told with " + second, wall, "ROW 0 2 " + first + " " + second,
                "day 0 2 0 1 {0..4} == OUTSIDE", "day 0 2 0 1 {10 25} == OUTSIDE");
        }
        RUNS.run("13: of a LAMP, a MODULE that is not there, OUTSIDE, too", "TEXT w3;p9", "ROW 0 2 10 1 0 34 1 31",
            "day 0 2 {0 2 4} 1 1" + " == OUTSIDE");
    }

    private static void dayWrong() {
        for (int p = 0; p < 20; p++) {
            StringBuilder row = new StringBuilder("ROW 0 0");
            for (int q = 0; q < 20; q++) {
                row.append(q < p ? " 5 1" : q == p ? " 5 2" : q % 2 == 0 ? " 0 31" : " 5 15");
            }
            RUNS.run("13: FIRST WRONG, 0 .. 19, of several the first", "TEXT w3;p90", row.toString(),
                "day 0 0 0 20 1 == " + p, "day 0 0 0 20 {0 2 3 4 10 11 12 25} == " + (-100 - p),
                "day 0 0 0 " + p + " {0 1 11} == " + (p == 0 ? "9 NONE 0" : "14 NONE 5"),
                "day 0 0 " + 2 * p + " 1 {0 1} == -100 0");
        }
        RUNS.run("13: OUTSIDE ahead of and behind a FIRST WRONG: refusals are told first", "TEXT w3;p90",
            "ROW 0 0 5 2 10 0", "ROW 1 0 10 0 5 2", "day 0 0 0 2 {0..4} == OUTSIDE", "day 1 0 0 2 {0..4} == OUTSIDE",
            "day 0 0 0 1 1 == 0");
        RUNS.run("13: what was told ahead of a FIRST WRONG is not done", "TEXT w3;p90", "reading 0 0 1",
            "ROW 0 0 5 0 1 20 0 30 5 2", "day 0 0 0 4 {0 1 10} == -103 3 -103");
    }

    private static void dayWhats() {
        String[] rows = {FULL, "ROW 0 1 9 0 9 2"};
        RUNS.run("13: OUTSIDE: what", Runs.with(rows, "day 0 1 0 {0 1 2} {-1 5 6 7 8 9 26 27 FAR} == OUTSIDE"));
        RUNS.run("13: LEVEL of LAMP l then", Runs.with(rows, "day 0 1 0 2 {10..25} == 9 2 9 4 5 6 7 8 9 0 1 2 3 4 5 6",
            "day 0 1 0 0 {10..25} == 1 2 3 4 5 6 7 8 9 0 1 2 3 4 5 6"));
        RUNS.run("13: the greatest CURRENT then", "TEXT w8;p0000;p0000;p0000;p0000",
            "ROW 0 1 8 0 8 15 4 7 2 1 1 2 1 3 1 4", "day 0 1 0 {0..7} 2 == 0 1 2 2 2 2 2 3");
        RUNS.run("13: how many times any GHOSTS", "TEXT w8;p0000;p0", "ROW 0 1 8 0 8 2 1 3 1 4 8 1 0 30",
            "day 0 1 0 {0..6} 4 == 0 8 16 16 16 8 0");
    }

    private static void dayOrder() {
        RUNS.run("13: UNKNOWN: SHEET, ahead of OUTSIDE", Runs.with(SHEETS,
            "day {-1 4 FAR} {-1 0 3} {-1 0} {0 21} {0 5} == UNKNOWN"));
        RUNS.run("13: OUTSIDE: lane, ahead of FAULTS", Runs.with(SHEETS,
            "day {0..3} {-1 3 FAR} {-1 0} {-1 0 21} {0 5} == OUTSIDE"));
        RUNS.run("13: OUTSIDE: n, ahead of FAULTS", Runs.with(SHEETS,
            "day {0..3} {0..2} {-1 0 99} {-1 21 FAR} {0 5} == OUTSIDE"));
        RUNS.run("13: OUTSIDE: what, ahead of FAULTS", Runs.with(SHEETS,
            "day {0..3} {0..2} {-1 0} {0 20} {-1 5 9 26 FAR} == OUTSIDE"));
        RUNS.run("13: CAST, ahead of INDEX and pairs", Runs.with(SHEETS,
            "day 0 {1 2} {-1 0 2 4 5 FAR} {0 1 20} {0 1} == CAST", "day 2 {0 1} {-1 0 3 FAR} {0 1 20} {0 1} == CAST",
            "day 3 {0 2} {-1 0 1} {0 1 20} {0 1} == CAST"));
        RUNS.run("13: NULL (nothing is no CAST), ahead of INDEX", Runs.with(SHEETS,
            "day 1 {0..2} {-1 0 1 FAR} {0 1 20} {0 1} == NULL"));
        RUNS.run("13: INDEX, ahead of pairs: 2 n cells", Runs.with(SHEETS,
            "day 0 0 {-1 5 FAR} {0 1 20} {0 1} == INDEX", "day 0 0 3 {1 20} {0 1} == INDEX",
            "day 0 0 {1 2} 2 1 == INDEX", "day 0 0 0 {3 20} 1 == INDEX", "day 0 0 4 1 1 == INDEX"));
        RUNS.run("13: INDEX where none is taken", Runs.with(SHEETS, "day 0 0 {0..4} 0 1 == NONE",
            "day 0 0 {-1 5} 0 1 == INDEX", "day 3 1 0 0 1 == NONE", "day 3 1 {-1 1} 0 1 == INDEX",
            "day 3 1 0 1 1 == INDEX"));
        RUNS.run("13: OUTSIDE: a pair", Runs.with(SHEETS, "day 0 0 0 2 {0 1} == OUTSIDE",
            "day 0 0 {1 2} 1 1 == OUTSIDE", "day 0 0 0 1 {0 1 10} == 19 NONE 7",
            "day 2 2 0 1 {0 1 11} == 19 NONE 5"));
    }
}
