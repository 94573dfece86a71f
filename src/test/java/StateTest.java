/**
 * The same answers, whatever was ahead: each list of answers is worked out by hand for one state and asked behind
 * several runs of calls that all lead to it. The rows are told in Runs.
 */
public final class StateTest {
    private static final Runs RUNS = new Runs();

    /** LIGHT 5, 3; 4; 9, 0. By CUT 3 the units' PLANES are 333222110333233, by CUT 1 321032132323333. */
    private static final String WALL = "TEXT w3;p53;h9;b60";
    private static final String LARGER = "TEXT w8;b9999;p1234;h5678;p3456";

    private static final String[] REFUSED = {"wall 4 0 0 1 = UNKNOWN", "wall 0 3 0 1 = OUTSIDE",
        "ofModule 9 0 = UNKNOWN", "ofModule 0 9 = OUTSIDE", "ofLamp 16 0 = UNKNOWN", "level 99 1 = UNKNOWN",
        "level 0 10 = OUTSIDE", "die 4 = UNKNOWN", "cut 9 = OUTSIDE", "ofUnit 15 0 = OUTSIDE", "slices 4 = OUTSIDE",
        "bears 17 = OUTSIDE", "steadiest 3 = OUTSIDE", "send 0 0 0 21 = OUTSIDE", "day 0 0 0 0 5 = OUTSIDE",
        "reading 0 16 1 = UNKNOWN", "reading 15 0 1 = OUTSIDE", "back 9 = OUTSIDE", "kinds 4 = UNKNOWN",
        "levels 16 = UNKNOWN", "odds 15 0 0 = LOST", "sheet 0 3 1 = OUTSIDE", "sheet 0 0 61 = OUTSIDE",
        "lose 4 = UNKNOWN", "put 4 0 0 = UNKNOWN", "cell 4 0 0 = LOST", "copy 0 0 4 0 0 = UNKNOWN", "tell 4 = UNKNOWN",
        "switchOn 4 = UNKNOWN", "as 4 0 = UNKNOWN", "many 6 = OUTSIDE"};
    private static final String[] FAULTED = {"wall 1 0 0 1 = NULL", "sheet 1 0 -1 = SIZE", "put 1 0 7 = NULL",
        "cell 1 0 0 = LOST", "copy 1 0 0 0 1 = NULL", "ROW 0 1 7", "wall 0 0 0 1 = CAST", "wall 0 1 0 -1 = SIZE",
        "wall 0 1 2 0 = INDEX", "put 0 1 7 = INDEX", "cell 0 0 0 = LOST", "cell 0 1 1 = LOST", "sheet 0 1 -1 = SIZE",
        "copy 0 0 0 1 1 = INDEX"};
    private static final String[] TEXTS_NOT_TAKEN = {"TEXT = -100", "TEXT w7 = -102",
        "TEXT w8;b9999;b9999;b9999;b9999; = -126", "TEXT w1;h1;h2;p333;bb = -115"};

    public static void main(String[] args) {
        withoutWall();
        withWall();
        withDeadModule();
        withReadings();
        RUNS.end();
    }

    private static void behind(String what, String[] ahead, String[][] answers) {
        for (String[] rows : answers) {
            RUNS.run(what, Runs.with(ahead, rows));
        }
    }

    private static String[] rows(String... rows) {
        return rows;
    }

    // ---- 1 no WALL

    private static final String[][] ANSWERS_WITHOUT_WALL = {
        {"many {0..5} == 0", "ofModule {0 3} {0..4} == UNKNOWN", "ofLamp {0 15} {0..6} == UNKNOWN",
            "level {0 15} {0 9} == UNKNOWN", "die {0 3} == UNKNOWN", "cut {1 8} == STATE"},
        {"ofUnit {0 14} {0..4} == STATE", "slices {-1..3} == STATE", "bears {0 16} == STATE",
            "steadiest {0..2} == STATE", "send {0..3} {0..2} 0 {0 20} == STATE",
            "day {0..3} {0..2} 0 {0 20} {0..4} == STATE"},
        {"reading {0 14} {0 15} {0 1} == UNKNOWN", "back 0 == 0", "back 1 == OUTSIDE", "kinds {0 3} == UNKNOWN",
            "levels {0 15} == UNKNOWN", "cuts == STATE", "odds {0 14} {0 16} {0 1} == LOST"},
        {"tell {0 3} == UNKNOWN", "switchOn {0 3} == UNKNOWN", "as {0 3} {0..2} == UNKNOWN", "trace == 0"},
    };

    private static void withoutWall() {
        behind("a new object", rows(), ANSWERS_WITHOUT_WALL);
        behind("no WALL, behind refusals", REFUSED_WITHOUT_WALL, ANSWERS_WITHOUT_WALL);
        behind("no WALL, behind FAULTS", FAULTED, ANSWERS_WITHOUT_WALL);
        behind("no WALL, behind TEXTS with a FIRST FAULT", TEXTS_NOT_TAKEN, ANSWERS_WITHOUT_WALL);
        behind("no WALL, a TEXT that was not asked for", rows("ROW 0 0 119 51 59 112 53", "ROW 1 2 119 51 59 98 53",
            "copy 0 0 0 0 5 = 5", "cell 0 0 0 = 119", "lose 1 = 1"), ANSWERS_WITHOUT_WALL);
    }

    private static final String[] REFUSED_WITHOUT_WALL = {"cut 3 = STATE", "cut 9 = OUTSIDE", "level 0 5 = UNKNOWN",
        "die 0 = UNKNOWN", "reading 0 0 1 = UNKNOWN", "back 1 = OUTSIDE", "send 0 0 0 0 = STATE", "cuts = STATE",
        "day 0 0 0 0 0 = STATE", "tell 0 = UNKNOWN", "switchOn 0 = UNKNOWN", "as 0 0 = UNKNOWN", "odds 0 0 0 = LOST"};

    // ---- 2 the WALL

    private static final String[][] ANSWERS_OF_WALL = {
        {"many {0..5} == 3 5 0 21 0 3", "ofModule 0 {0..4} == 0 2 0 0 0", "ofModule 1 {0..4} == 1 1 2 0 1",
            "ofModule 2 {0..4} == 2 2 3 0 2", "ofModule 3 {0..4} == UNKNOWN"},
        {"ofLamp {0..4} 0 == 0 0 1 2 2", "ofLamp {0..4} 1 == 5 3 9 6 0", "ofLamp {0..4} 2 == 5 3 4 9 0",
            "ofLamp {0..4} 3 == 5 12 6 5 15", "ofLamp {0..4} 4 == 6 2 4 4 0",
            "ofLamp {0..4} 5 == [3..5,8,12] [6..8] [3..5,12] [0..2,8..11,13,14] []",
            "ofLamp {0..4} 6 == [] [3..5,12] [] [] [0..2,8..11,13,14]", "ofLamp {5..15} {0..6} == UNKNOWN"},
        {"ofUnit {0..14} 0 == 3 3 3 2 2 2 1 1 0 3 3 3 2 3 3", "ofUnit {0..14} 1 == 1 1 1 2 2 2 1 1 3 1 1 1 2 1 1",
            "ofUnit {0 3 6 8} 2 == [3] [0,2] [1] [0,1,3]", "ofUnit {0..14} 3 == 0 0 0 0 0 0 0 0 0 1 1 1 1 2 2",
            "ofUnit {0..14} 4 == 1 1 1 1 1 1 0 0 1 1 1 1 1 1 1", "slices {-1..3} == 7 1 1 2 3"},
        {"bears {0..4} == 1 2 14 15 15", "bears 16 == 15", "steadiest {0..2} == 1 37 43"},
        {"ROW 0 2 1 2 3 4 5 6", "send 0 2 0 {0 1} == 0 1", "send 0 2 0 3 = 0", "ofLamp {0..4} 1 = 1 2 3 6 0",
            "send 0 2 0 6 = 1", "ofLamp {0..4} 1 = 1 2 3 4 5"},
        {"ROW 0 2 9 4 1 20 0 30", "day 0 2 0 0 {0..4} == 21 NONE 3 43 13", "day 0 2 0 1 {0..4} == 34 NONE 4 30 4",
            "day 0 2 0 2 3 == 23", "day 0 2 0 3 {0 2 3 4} == 26 2 38 0",
            "day 0 2 0 3 {10..15} == 5 3 9 6 9 NONE", "ROW 1 0 5 5", "day 1 0 0 1 {0 1} == -100 0",
            "ROW 1 0 0 33", "day 1 0 0 1 {0 1} == -100 0"},
        {"kinds {0..2} == [0..2]", "levels {0..4} == [0..9]", "cuts == [1..8]", "back 1 == OUTSIDE",
            "reading 3 0 1 = 0", "kinds {0..2} == [0,2] [0..2] [0..2]", "levels {0..4} == [4..7] [0..9] [0..9] [0..9] "
            + "[0..9]", "cuts == [1..3]", "back 1 = 0"},
        {"odds 0 {0 1 4 5} 0 == 1 481 4 0", "odds 0 {0 1 4 5} 1 == 1 625 625 1", "odds 6 5 {0 1} == 32 3125"},
        {"tell {0..2} = 2 101 104", "switchOn {0..2} = 8 9 60", "as {0..2} 1 == CAST 1 1", "tell 3 == UNKNOWN",
            "switchOn 3 == UNKNOWN", "as 3 0 == UNKNOWN"},
        {"level {0..4} 8 = 5 3 9 6 0", "many 3 = 44", "cut {1 8} = 3 1", "die {0..2} = 1", "many {0..5} = 3 5 3 0 0 8",
            "die 1 = 0", "ofModule {0..2} 4 = NONE 0 NONE", "many 3 = 4"},
    };

    private static void withWall() {
        String[] fromLarger = {LARGER, "die {0..3}", "reading {0..7} 0 0", "level {0..15} 7", "cut 2", "kinds 3",
            "levels 15", "cuts"};
        behind("a WALL", rows(WALL), ANSWERS_OF_WALL);
        behind("a WALL made anew, from a larger one", Runs.with(fromLarger, WALL), ANSWERS_OF_WALL);
        behind("a WALL made anew, from a smaller one", rows("TEXT w1;h7", "die 0", "reading 0 0 {0 1}", "level 0 0",
            WALL), ANSWERS_OF_WALL);
        behind("a WALL made anew, by the same TEXT", rows(WALL, "die {0..2}", "reading 3 {0..4} 1", "level {0..4} 1",
            "cut 5", "wall 3 0 0 13 = 3"), ANSWERS_OF_WALL);
        behind("a WALL, behind refusals", Runs.with(rows(WALL), REFUSED), ANSWERS_OF_WALL);
        behind("a WALL, behind FAULTS", Runs.with(Runs.with(rows(WALL), FAULTED), "send 1 0 0 0 = NULL",
            "day 0 2 0 0 0 = CAST", "day 0 1 0 1 0 = INDEX", "as 0 2 = CAST"), ANSWERS_OF_WALL);
        behind("a WALL, behind TEXTS with a FIRST FAULT", Runs.with(rows(WALL), TEXTS_NOT_TAKEN), ANSWERS_OF_WALL);
        behind("a WALL, changed and changed back", rows(WALL, "die {0 1 2 2 1 0}", "level 4 {9 0}", "level 0 {0 5}",
            "cut {8 3}", "reading 3 {0..4} 0", "back {1 2 2}"), ANSWERS_OF_WALL);
        behind("a WALL, its LEVELS sent, its CUT told", rows("TEXT w5;p00;h0;b00", "ROW 0 1 5 3 9 6 0",
            "send 0 1 0 5 = 0", "cut 3 = 5"), ANSWERS_OF_WALL);
        behind("a WALL, of which much was asked", rows(WALL, "kinds {0..2}", "levels {0..4}", "cuts", "steadiest {0 1}",
            "bears {0..16}", "odds 0 {0..16} 0", "ROW 1 0 9 0 8 20 0 31 0 4", "day 1 0 0 4 {0..4}", "lose 1"),
            ANSWERS_OF_WALL);
    }

    // ---- 3 MODULES that are DEAD

    /** MODULE 0 is DEAD: LIGHT 0, 0; 4; 9, 0. */
    private static final String[][] ANSWERS_WITH_DEAD = {
        {"many {0..5} == 3 5 1 13 0 3", "ofModule 0 {0..4} == 0 2 0 1 NONE", "ofModule 1 {0..4} == 1 1 2 0 0",
            "ofModule 2 {0..4} == 2 2 3 0 1"},
        {"ofLamp {0..4} 1 == 5 3 9 6 0", "ofLamp {0..4} 2 == 0 0 4 9 0", "ofLamp {0..4} 3 == 15 15 6 5 15",
            "ofLamp {0..4} 4 == 0 0 4 4 0", "ofLamp {0..4} 5 == [] [] [3..5,12] [0..2,8..11,13,14] []",
            "ofLamp {0..4} 6 == [] [] [] [] [0..2,8..11,13,14]"},
        {"ofUnit {0..14} 1 == 1 1 1 1 1 1 0 0 1 1 1 1 1 1 1", "ofUnit {0 3 6 8} 2 == [3] [2] [] [3]",
            "ofUnit {0..14} 4 == 1 1 1 0 0 0 0 0 1 1 1 1 0 1 1", "slices {-1..3} == 7 1 1 2 3"},
        {"bears {0 1 2} == 1 15 15", "steadiest {0..2} == 1 52 56"},
        {"ROW 0 2 1 2 3 4 5 6", "send 0 2 0 2 = 1", "ofLamp {0..4} 1 = 5 3 1 6 0", "send 0 2 3 3 = 0",
            "ofLamp {0..4} 1 = 5 3 4 5 6", "send 0 2 0 6 = 3"},
        {"ROW 0 2 9 0 0 30 0 31", "day 0 2 0 0 {0..4} == 13 NONE 1 56 9", "day 0 2 0 1 {0 10} == 13 9",
            "day 0 2 0 2 {0 10} == 25 9", "day 0 2 0 3 {0 3} == 21 52"},
        {"kinds {0..2} == [0..2]", "levels {0..4} == [0..9]", "cuts == [1..8]", "reading 3 0 1 = 0",
            "kinds {0..2} == []", "levels {0..4} == []", "cuts == []", "die 0 = 0", "cuts == [1..3]"},
        {"odds 0 {0..3} 0 == 1 16 4 0", "odds 0 {0..3} 1 == 1 25 25 1", "odds 6 3 {0 1} == 8 125"},
        {"tell {0..2} = 2 101 104", "switchOn {0..2} = 8 9 60", "as 0 {0 1} == 1 CAST"},
        {"level 0 8 = 5", "many 3 == 13", "cut 1 = 3", "die 0 = 0", "many {0..5} == 3 5 0 24 0 1"},
    };

    private static void withDeadModule() {
        behind("a DEAD MODULE", rows(WALL, "die 0 = 1"), ANSWERS_WITH_DEAD);
        behind("a DEAD MODULE that came back and died again", rows(WALL, "die {0 0 0} = 1 0 1"), ANSWERS_WITH_DEAD);
        behind("all DEAD, two came back", rows(WALL, "die {0..2} = 1", "cut {7 3}", "die {2 1} = 0"),
            ANSWERS_WITH_DEAD);
        behind("a DEAD MODULE of a WALL made anew", rows(LARGER, "die {1..3}", "reading {0..7} 1 1", WALL, "die 0 = 1"),
            ANSWERS_WITH_DEAD);
        behind("a DEAD MODULE, behind refusals", Runs.with(rows(WALL, "die 0 = 1"), REFUSED), ANSWERS_WITH_DEAD);
        behind("a DEAD MODULE, behind FAULTS", Runs.with(rows(WALL, "die 0 = 1"), FAULTED), ANSWERS_WITH_DEAD);
        behind("a DEAD MODULE, behind TEXTS with a FIRST FAULT", Runs.with(rows(WALL, "die 0 = 1"), TEXTS_NOT_TAKEN),
            ANSWERS_WITH_DEAD);
    }

    // ---- 4 READINGS

    /** In unit 12 LAMP 0 is LIT, in unit 8 LAMP 2 is not, in unit 0 LAMP 3 is. */
    private static final String[] READ = {"reading 12 0 1 = 0", "reading 8 2 0 = 1", "reading 0 3 1 = 2"};

    /** By CUTS 1 .. 8 unit 12 is in PLANES 3, 3, 2, 3, 3, 0, 1, 1, unit 8 in PLANES 2, 3, 0, 1, 2, 2, 2, 2. */
    private static final String[][] ANSWERS_WITH_READINGS = {
        {"many {0..5} == 3 5 0 21 3 3", "kinds {0..2} == [0,2] [1] [2]",
            "levels {0..4} == [4..7] [0..9] [0,1,4,5,8,9] [6..9] [0..9]", "cuts == [3]"},
        {"back 4 == OUTSIDE", "back 1 = 2", "kinds {0..2} == [0,2] [1] [0..2]", "levels 3 == [0..9]",
            "reading 0 3 0 = 2", "kinds {0..2} == [] [] [0,1]", "levels 3 == [0..5]", "cuts == []", "back 3 = 0",
            "cuts == [1..8]", "levels 0 == [0..9]"},
        {"reading 0 {0..4} 0 = 3 4 5 6 7", "reading 0 0 0 == FULL", "many 4 == 8", "levels {0..4} == []", "back 5 = 3",
            "cuts == [3]"},
        {"level 0 3 = 5", "cuts == []", "levels {0 1} == [4..7] []", "level 0 6 = 3", "cuts == [3]", "cut 2 = 3",
            "levels {0..4} == [8,9] [] [] [] []", "cuts == [3]", "die 1 = 1", "cuts == [3,7,8]",
            "die 0 = 1", "cuts == []", "many 4 == 3"},
        {"ofLamp {0..4} 2 == 5 3 4 9 0", "odds 0 {0 1} 0 == 1 481", "bears {0..2} == 1 2 14",
            "steadiest {0..2} == 1 37 43", "ROW 0 2 0 0", "day 0 2 0 1 {0 3} == 16 53", "send 0 2 0 2 = 0",
            "many {3 4} == 13 3", "levels 0 == [4..7]"},
    };

    private static void withReadings() {
        String[] read = Runs.with(rows(WALL), READ);
        behind("READINGS", read, ANSWERS_WITH_READINGS);
        behind("READINGS, behind others that were taken back", Runs.with(rows(WALL, "reading 1 {0..4} 1",
            "reading 2 {0..2} 0", "back 8 = 0"), READ), ANSWERS_WITH_READINGS);
        behind("READINGS of a WALL made anew", Runs.with(rows(LARGER, "die 0", "reading {0..7} 15 0", WALL), READ),
            ANSWERS_WITH_READINGS);
        behind("READINGS, while MODULES were DEAD", Runs.with(Runs.with(rows(WALL, "die {0..2} = 1"), READ),
            "die {0..2} = 0"), ANSWERS_WITH_READINGS);
        behind("READINGS, behind refusals", Runs.with(read, REFUSED), ANSWERS_WITH_READINGS);
        behind("READINGS, behind FAULTS", Runs.with(read, FAULTED), ANSWERS_WITH_READINGS);
        behind("READINGS, behind TEXTS with a FIRST FAULT", Runs.with(read, TEXTS_NOT_TAKEN), ANSWERS_WITH_READINGS);
    }
}
