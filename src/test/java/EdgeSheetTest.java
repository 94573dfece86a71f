/** The boundary cases of promises 20 to 30, sentence by sentence; the rows are told in Runs. */
public final class EdgeSheetTest {
    private static final Runs RUNS = new Runs();
    private static final String FULL = "TEXT w3;p1234;h5678;b9012;p3456";

    public static void main(String[] args) {
        sheet();
        sheetOrder();
        lose();
        putCuts();
        put();
        cell();
        copy();
        copyOverlaps();
        copyOrder();
        tell();
        switchOn();
        as();
        trace();
        fault();
        many();
        RUNS.end();
    }

    // ---- 20 sheet, 21 lose

    private static void sheet() {
        for (int lane = 0; lane < 3; lane++) {
            RUNS.run("20: rows of 0, 1, 59, 60 cells, 0 at first", "sheet 0 " + lane + " 0 = 1",
                "sheet 1 " + lane + " 1 = 1", "sheet 2 " + lane + " 59 = 1", "sheet 3 " + lane + " 60 = 1",
                "cell 0 {-1 0 1} " + lane + " == LOST-INDEX", "cell 1 0 " + lane + " == 0",
                "cell 1 {-1 1} " + lane + " == LOST-INDEX", "cell 2 {0..58} " + lane + " == 0",
                "cell 2 59 " + lane + " == LOST-INDEX", "cell 3 {0..59} " + lane + " == 0",
                "cell 3 60 " + lane + " == LOST-INDEX");
            RUNS.run("20: a new row, of more, of fewer, of as many cells", "ROW 0 " + lane + " 1 2 3",
                "sheet 0 " + lane + " 5 = 1", "cell 0 {0..4} " + lane + " = 0", "put 0 {0..4} 7",
                "sheet 0 " + lane + " 2 = 1", "cell 0 {0 1} " + lane + " = 0",
                "cell 0 {2 3 4} " + lane + " == LOST-INDEX", "put 0 {0 1} 7", "sheet 0 " + lane + " 2 = 1",
                "cell 0 {0 1} " + lane + " = 0");
            for (int other = 0; other < 3; other++) {
                RUNS.run("20: a new row of another LANE", "ROW 0 " + lane + " 1 2 3", "ROW 1 " + lane + " 4",
                    "sheet 0 " + other + " 3 = 1", "cell 0 {0..2} " + other + " = 0", "cell 1 0 " + lane + " = 4",
                    "cell 0 0 " + (other + 1) % 3 + " == LOST-CAST", "cell 0 0 " + (other + 2) % 3 + " == LOST-CAST");
            }
        }
        RUNS.run("20: behind a row that was lost", "ROW 0 2 1 2 3", "lose 0", "sheet 0 2 3 = 1", "cell 0 {0..2} 2 = 0");
        RUNS.run("20: a row of 0 cells is not nothing", "sheet 0 1 0 = 1", "put 0 0 0 == INDEX", "wall 0 1 0 0 == -100",
            "copy 0 0 0 0 0 == 0", "lose 0 = 1");
    }

    private static void sheetOrder() {
        String[] rows = {FULL, "ROW 0 0 1 2", "ROW 1 1 3", "ROW 2 2 4"};
        RUNS.run("20: UNKNOWN, ahead of OUTSIDE, SIZE", Runs.with(rows,
            "sheet {-1 4 5 FAR} {-1 0 3} {-1 0 60 61} == UNKNOWN"));
        RUNS.run("20: OUTSIDE: lane, ahead of SIZE", Runs.with(rows,
            "sheet {0..3} {-1 3 4 FAR} {-1 0 60 61 MIN} == OUTSIDE"));
        RUNS.run("20: OUTSIDE: n above 60", Runs.with(rows, "sheet {0..3} {0..2} {61 62 256 65536 MAX} == OUTSIDE"));
        RUNS.run("20: SIZE: n below 0", Runs.with(rows, "sheet {0..3} {0..2} {-1 -2 -60 -61 -256 -65536 MIN} == SIZE"));
    }

    private static void lose() {
        RUNS.run("21: 1, and 0 where it had nothing", "ROW 0 0 1", "ROW 3 2", "lose {0..3} = 1 0 0 1",
            "lose {0..3} = 0", "put {0..3} 0 1 == NULL");
        RUNS.run("21: that SHEET alone", "ROW 0 0 1", "ROW 1 0 2", "lose 0 = 1", "cell 1 0 0 = 2");
        RUNS.run("21: UNKNOWN", "ROW 0 0 1", "ROW 3 2 5", "lose {-1 4 5 FAR} == UNKNOWN");
        RUNS.run("21: names no FAULT", "put 0 0 0 = NULL", "lose 0 = 0", "fault = 1", "lose 4 = UNKNOWN", "fault = 1");
    }

    // ---- 22 put, 23 cell

    private static void putCuts() {
        RUNS.run("22: a byte", "sheet 0 0 12", "put 0 0 127", "put 0 1 128", "put 0 2 -128", "put 0 3 -129",
            "put 0 4 255", "put 0 5 256", "put 0 6 257", "put 0 7 32768", "put 0 8 MAX", "put 0 9 MIN",
            "put 0 10 70001", "put 0 11 -1", "cell 0 {0..11} 0 == 127 -128 -128 127 -1 0 1 0 -1 0 113 -1");
        RUNS.run("22: a short", "sheet 0 1 12", "put 0 0 32767", "put 0 1 32768", "put 0 2 -32768", "put 0 3 -32769",
            "put 0 4 65535", "put 0 5 65536", "put 0 6 128", "put 0 7 255", "put 0 8 MAX", "put 0 9 MIN",
            "put 0 10 70001", "put 0 11 -1",
            "cell 0 {0..11} 1 == 32767 -32768 -32768 32767 -1 0 128 255 -1 0 4465 -1");
        RUNS.run("22: an int", "sheet 0 2 8", "put 0 0 MAX", "put 0 1 MIN", "put 0 2 -1", "put 0 3 128",
            "put 0 4 32768", "put 0 5 65536", "put 0 6 256", "put 0 7 70001",
            "cell 0 {0..7} 2 == 2147483647 -2147483648 -1 128 32768 65536 256 70001");
        RUNS.run("22: cut to the LANE that it has now", "sheet 0 2 1", "put 0 0 300", "sheet 0 0 1", "put 0 0 300",
            "cell 0 0 0 = 44", "sheet 0 1 1", "put 0 0 300", "cell 0 0 1 = 300");
    }

    private static void put() {
        for (int lane = 0; lane < 3; lane++) {
            RUNS.run("22: the first and the last cell alone", "sheet 1 " + lane + " 60", "put 1 0 5 = 1",
                "put 1 59 6 = 1", "cell 1 {0 1 58 59} " + lane + " == 5 0 0 6", "put 1 0 7 = 1",
                "cell 1 {0 59} " + lane + " == 7 6");
            RUNS.run("22: INDEX", "sheet 1 " + lane + " 60", "ROW 0 " + lane + " 5", "put 1 {-1 60 61 FAR} 7 == INDEX",
                "put 0 {-1 1 2 59 FAR} {0 7 MIN} == INDEX", "put 0 0 8 = 1", "fault = 0");
        }
        RUNS.run("22: NULL, ahead of INDEX", "ROW 1 0 1", "put {0 2 3} {-1 0 1 60 FAR} 7 == NULL", "lose 1",
            "put 1 {-1 0 1 60 FAR} 7 == NULL");
        RUNS.run("22: UNKNOWN, ahead of NULL, INDEX", "ROW 1 0 1", "put {-1 4 5 FAR} {-1 0 1 60 FAR} 7 == UNKNOWN");
    }

    private static void cell() {
        String[] rows = {"ROW 0 0 1 2", "ROW 1 1 3", "ROW 2 2 MIN MAX -1 0"};
        RUNS.run("23: an int as a long", Runs.with(rows, "cell 2 {0..3} 2 == -2147483648 2147483647 -1 0"));
        RUNS.run("23: LOST: UNKNOWN", Runs.with(rows, "cell {-1 4 5 FAR} {-1 0 1 99} {-1 0 2 3} == LOST"));
        RUNS.run("23: LOST: OUTSIDE: lane, ahead of FAULTS", Runs.with(rows,
            "cell {0..3} {-1 0 99} {-1 3 4 FAR} == LOST"));
        RUNS.run("23: CAST, ahead of INDEX", Runs.with(rows, "cell 0 {-1 0 1 2 FAR} {1 2} == LOST-CAST",
            "cell 1 {-1 0 1 FAR} {0 2} == LOST-CAST", "cell 2 {-1 0 3 4 FAR} {0 1} == LOST-CAST"));
        RUNS.run("23: nothing is no CAST: NULL, ahead of INDEX", Runs.with(rows,
            "cell 3 {-1 0 1 FAR} {0..2} == LOST-NULL"));
        RUNS.run("23: INDEX", Runs.with(rows, "cell 0 {-1 2 3 FAR} 0 == LOST-INDEX",
            "cell 1 {-1 1 2 FAR} 1 == LOST-INDEX", "cell 2 {-1 4 5 FAR} 2 == LOST-INDEX", "cell 0 {0 1} 0 == 1 2"));
        RUNS.run("23: of a row that was longer", "ROW 0 0 1 2 3", "sheet 0 0 1", "cell 0 {1 2} 0 == LOST-INDEX");
    }

    // ---- 24 copy

    private static void copy() {
        for (int lane = 0; lane < 3; lane++) {
            String cells = " " + lane + " = ";
            RUNS.run("24: n cells from i on go to j on", "ROW 0 " + lane + " 1 2 3 4 5", "ROW 1 " + lane + " 9 8 7",
                "copy 0 3 1 0 2 = 2", "cell 1 {0..2}" + cells + "4 5 7", "cell 0 {0..4}" + cells + "1 2 3 4 5",
                "copy 0 0 1 2 1 = 1", "cell 1 {0..2}" + cells + "4 5 1", "copy 1 0 0 2 3 = 3",
                "cell 0 {0..4}" + cells + "1 2 4 5 1", "fault = 0");
            RUNS.run("24: 60 cells", "sheet 0 " + lane + " 60", "sheet 1 " + lane + " 60", "put 0 0 5", "put 0 59 6",
                "copy 0 0 1 0 60 = 60", "cell 1 {0 1 58 59}" + cells + "5 0 0 6", "copy 0 0 1 0 61 == INDEX",
                "copy 0 60 1 60 0 == 0");
            RUNS.run("24: n of 0", "ROW 0 " + lane + " 1 2", "ROW 1 " + lane, "copy 0 {0..2} 1 0 0 == 0",
                "copy 1 0 0 {0..2} 0 == 0", "copy 1 0 1 0 0 == 0", "copy 0 {-1 3} 1 0 0 == INDEX",
                "copy 1 0 0 {-1 3} 0 == INDEX", "copy 1 {-1 1} 1 0 0 == INDEX", "copy 1 0 1 {-1 1} 0 == INDEX");
        }
    }

    private static void copyOverlaps() {
        String row = "ROW 0 2 1 2 3 4 5";
        RUNS.run("24: the same SHEET, as they were: up", row, "copy 0 0 0 1 4 = 4", "cell 0 {0..4} 2 = 1 1 2 3 4");
        RUNS.run("24: the same SHEET, as they were: down", row, "copy 0 1 0 0 4 = 4", "cell 0 {0..4} 2 = 2 3 4 5 5");
        RUNS.run("24: the same SHEET, where they are", row, "copy 0 {0 5} 0 {0 5} 0 == 0", "copy 0 0 0 0 5 == 5",
            "copy 0 2 0 2 3 == 3");
        RUNS.run("24: the same SHEET, by two", row, "copy 0 0 0 2 3 = 3", "cell 0 {0..4} 2 = 1 2 1 2 3",
            "copy 0 3 0 0 2 = 2", "cell 0 {0..4} 2 = 2 3 1 2 3");
        RUNS.run("24: the same SHEET beyond", row, "copy 0 1 0 0 5 == INDEX", "copy 0 0 0 1 5 == INDEX",
            "copy 0 0 0 0 6 == INDEX");
    }

    private static void copyOrder() {
        String[] rows = {"ROW 0 0 1 2 3", "ROW 1 0 4 5", "ROW 2 2 6"};
        RUNS.run("24: UNKNOWN, the first, ahead of all", Runs.with(rows,
            "copy {-1 4 FAR} {-1 0} {-1 0 3 4} {-1 0} {-1 0 9} == UNKNOWN"));
        RUNS.run("24: UNKNOWN, the other, ahead of NULL", Runs.with(rows,
            "copy {0 3} {-1 0} {-1 4 FAR} {-1 0} {-1 0 9} == UNKNOWN"));
        RUNS.run("24: NULL, the first, ahead of CAST, INDEX", Runs.with(rows,
            "copy 3 {-1 0 9} {0..3} {-1 0 9} {-1 0 9} == NULL"));
        RUNS.run("24: NULL, the other, ahead of INDEX", Runs.with(rows,
            "copy {0 2} {-1 0 9} 3 {-1 0 9} {-1 0 9} == NULL"));
        RUNS.run("24: CAST, ahead of INDEX", Runs.with(rows, "copy {0 1} {-1 0 9} 2 {-1 0 9} {-1 0 9} == CAST",
            "copy 2 {-1 0 9} {0 1} {-1 0 9} {-1 0 9} == CAST"));
        RUNS.run("24: CAST where none is taken", Runs.with(rows, "copy 0 0 2 0 0 == CAST", "copy 2 1 0 3 0 == CAST"));
        RUNS.run("24: INDEX: i", Runs.with(rows, "copy 0 {-1 4 FAR} 1 0 {0 1} == INDEX",
            "copy 0 {2 3} 1 0 2 == INDEX"));
        RUNS.run("24: INDEX: j", Runs.with(rows, "copy 0 0 1 {-1 3 FAR} {0 1} == INDEX",
            "copy 0 0 1 {1 2} 2 == INDEX"));
        RUNS.run("24: INDEX: n", Runs.with(rows, "copy 0 0 1 0 {-1 3 4 FAR} == INDEX",
            "copy 0 {0 1 3} 1 {0 1 2} {-1 MIN MAX} == INDEX", "copy 1 0 0 0 3 == INDEX"));
        RUNS.run("24: all three", Runs.with(rows, "copy 0 {-1 MIN MAX} 1 {-1 MIN MAX} {-1 MIN MAX} == INDEX"));
    }

    // ---- 25 tell, 26 switchOn, 27 as

    private static void tell() {
        for (int n = 1; n <= 4; n++) {
            String lamps = "9876".substring(0, n);
            RUNS.run("25: of 1 .. 4 LAMPS", "TEXT w3;p" + lamps + ";h" + lamps + ";b" + lamps,
                "tell {0..2} = " + n + " " + (100 + n) + " " + (100 + 2 * n));
        }
        RUNS.run("25: DEAD ones, too", FULL, "die {0..3}", "tell {0..3} = 4 104 108 4");
        RUNS.run("25: UNKNOWN: leaves nothing in TRACE", FULL, "tell 3", "tell {-1 4 5 FAR} == UNKNOWN");
        RUNS.run("25: UNKNOWN in a WALL of one", "TEXT w3;p1", "tell {1..4} == UNKNOWN");
        RUNS.run("25: names no FAULT", FULL, "as 0 2 = CAST", "tell 0 = 4", "switchOn 0 = 10", "fault = 2");
    }

    private static void switchOn() {
        RUNS.run("26: LEVELS of its LAMPS together, BRIGHT ones 60", FULL, "switchOn {0..3} = 10 26 60 18");
        RUNS.run("26: the least and the greatest", "TEXT w3;p0;h9999;b0;p0000", "switchOn {0..3} = 0 36 60 0");
        RUNS.run("26: LEVELS told anew", "TEXT w3;p00;h00", "level 0 7", "level 3 9", "switchOn {0 1} = 7 9");
        RUNS.run("26: DEAD ones, too", FULL, "die {0..3}", "switchOn {0..3} = 10 26 60 18");
        RUNS.run("26: UNKNOWN: leaves nothing in TRACE", FULL, "switchOn 3", "switchOn {-1 4 5 FAR} == UNKNOWN");
        RUNS.run("26: UNKNOWN in a WALL of one", "TEXT w3;p1", "switchOn {1..4} == UNKNOWN");
    }

    private static void as() {
        RUNS.run("27: a HALVED one is a PLAIN one, a BRIGHT one a HALVED one", FULL, "as 0 {0..2} == 1 CAST CAST",
            "as 1 {0..2} == 1 1 CAST", "as 2 {0..2} == 1", "as 3 {0..2} == 1 CAST CAST");
        RUNS.run("27: DEAD ones, too", FULL, "die {0..3}", "as {0 1 2} 2 == CAST CAST 1");
        RUNS.run("27: UNKNOWN, ahead of OUTSIDE", FULL, "as {-1 4 5 FAR} {-1 0 2 3 FAR} == UNKNOWN");
        RUNS.run("27: OUTSIDE", FULL, "as {0..3} {-1 3 4 FAR} == OUTSIDE");
        RUNS.run("27: by a TEXT told anew", "TEXT w3;p1", "as 0 2 = CAST", "TEXT w3;b1", "as 0 2 = 1", "fault = 0");
    }

    // ---- 28 trace, 29 fault, 30 many

    private static void trace() {
        RUNS.run("28: numbers of the bodies as they begin", "TEXT w3;p1;h1;b1", "trace = 0", "tell 0", "trace = 1",
            "tell 0", "trace = 32", "tell 1", "trace = 30815", "switchOn 0", "trace = 955269", "switchOn 1",
            "trace = 29613343", "switchOn 2", "trace = 918013638");
        RUNS.run("28: BRIGHT: 3, 2, 1, 1", "TEXT w3;b1", "tell 0", "trace = 91327");
        RUNS.run("28: HALVED: 2, 1", "TEXT w3;h1", "tell 0", "trace = 63");
        RUNS.run("28: SWITCHED: 4, 5", "TEXT w3;h1;b1", "switchOn 0", "trace = 4", "switchOn 1", "trace = 129");
        RUNS.begin("28: an int that wraps");
        RUNS.tell("TEXT w3;b1");
        int want = 0;
        for (int k = 0; k < 40; k++) {
            RUNS.tell("switchOn 0 = 60");
            want = 31 * want + 5;
            RUNS.tell("trace = " + want);
        }
        RUNS.run("28: by hand over the end of an int", "TEXT w3;p1", "tell 0", "tell 0", "tell 0", "tell 0", "tell 0",
            "tell 0", "trace = 29583456", "tell 0", "trace = 917087137", "tell 0", "trace = -1635069824",
            "trace == -1635069824");
        RUNS.run("28: no other call leaves anything", FULL, "die 0", "level 0 9", "cut 1", "reading 0 0 0", "as 0 0",
            "kinds 0", "back 1", "bears 3", "steadiest 1", "trace = 0");
    }

    private static void fault() {
        String[] rows = {FULL, "ROW 0 0 1 2", "ROW 1 2 119", "put 2 0 0 = NULL", "fault = 1"};
        String[] naming = {"wall 1 2 0 1 = -101", "send 0 0 0 2 = 2", "day 0 0 0 0 1 = NONE", "sheet 2 0 0 = 1",
            "put 0 0 1 = 1", "cell 0 0 0 = 1", "copy 0 0 0 0 1 = 1", "as 0 0 = 1"};
        for (String call : naming) {
            RUNS.run("29: 0, the latest that names one came to none", Runs.with(rows, call, "fault = 0", "fault = 0"));
        }
        String[] refused = {"wall 4 2 0 1 = UNKNOWN", "wall 0 3 0 1 = OUTSIDE", "send 4 0 0 2 = UNKNOWN",
            "send 0 0 0 21 = OUTSIDE", "day 4 0 0 0 1 = UNKNOWN", "day 0 0 0 0 5 = OUTSIDE", "send 1 2 0 1 = OUTSIDE",
            "sheet 4 0 0 = UNKNOWN", "sheet 2 0 61 = OUTSIDE", "put 4 0 1 = UNKNOWN", "cell 4 0 0 = LOST",
            "cell 0 0 3 = LOST", "copy 4 0 0 0 1 = UNKNOWN", "as 4 0 = UNKNOWN", "as 0 3 = OUTSIDE"};
        for (String call : refused) {
            RUNS.run("29: 0, the latest that names one was refused", Runs.with(rows, call, "fault = 0"));
        }
        String[] others = {"ofModule 0 0", "ofModule 9 0", "ofLamp 0 0", "ofLamp 99 0", "level 0 0", "level 0 99",
            "die 0", "die 9", "cut 1", "cut 99", "ofUnit 0 0", "ofUnit 99 0", "slices 0", "slices 9", "bears 0",
            "bears 99", "steadiest 0", "steadiest 9", "reading 0 0 0", "reading 0 99 0", "back 0", "back 99",
            "kinds 0", "kinds 9", "levels 0", "levels 99", "cuts", "odds 0 0 0", "odds 99 0 0", "lose 2", "lose 0",
            "lose 9", "tell 0", "tell 9", "switchOn 0", "switchOn 9", "trace", "fault", "many 0", "many 9"};
        for (String call : others) {
            RUNS.run("29: calls that name none leave it", Runs.with(rows, call, "fault = 1"));
        }
        RUNS.run("29: each FAULT, the latest", Runs.with(rows, "sheet 2 0 -1 = SIZE", "fault = 4",
            "cell 0 2 0 = LOST", "fault = 3", "cell 0 0 1 = LOST", "fault = 2", "cell 2 0 1 = LOST", "fault = 1",
            "as 0 1 = CAST", "fault = 2", "copy 0 0 0 0 -1 = INDEX", "fault = 3", "wall 0 0 0 -1 = SIZE", "fault = 4",
            "send 2 0 0 0 = NULL", "fault = 1", "day 0 1 0 0 0 = CAST", "fault = 2", "put 0 2 0 = INDEX",
            "fault = 3"));
        RUNS.run("29: STATE is a refusal", "put 0 0 0 = NULL", "send 0 0 0 0 = STATE", "fault = 0", "put 0 0 0 = NULL",
            "day 0 0 0 0 0 = STATE", "fault = 0");
    }

    private static void many() {
        RUNS.run("30: all that there can be", "TEXT w8;b9999;b9999;b9999;b9999", "reading {0..7} 0 1",
            "many {0..5} == 4 16 0 208 8 8", "die {0..3}", "many {0..5} == 4 16 4 0 8 8");
        RUNS.run("30: the least", "TEXT w1;p0", "many {0..5} == 1 1 0 0 0 1");
        RUNS.run("30: OUTSIDE", FULL, "many {-1 6 7 FAR} == OUTSIDE");
        RUNS.run("30: OUTSIDE without a WALL", "many {-1 6 7 FAR} == OUTSIDE", "many {0..5} == 0");
        RUNS.run("30: 0 all without a WALL, whatever was told", "ROW 0 0 119 51", "wall 0 0 0 2 = -102",
            "cut 3 = STATE", "reading 0 0 0 = UNKNOWN", "many {0..5} == 0");
    }
}
