/** Promise by promise: answers worked out by hand from the document, its edges, and wrong inputs. */
public final class PromiseTest {
    private static final int U = -1, O = -2, S = -3, F = -4, NONE = -9;
    private static final int NULL = -11, CAST = -12, INDEX = -13, SIZE = -14;
    private static final long LOST = Long.MIN_VALUE;
    private static final int[] WRONG = {Integer.MIN_VALUE, -100, -1, 100, Integer.MAX_VALUE};

    private static int checks = 0;
    private static int wrong = 0;
    private static int promise = 0;

    private static void due(String call, long got, long want) {
        checks++;
        if (got != want) {
            wrong++;
            System.out.println("promise " + promise + ": " + call + " answered " + got + ", due is " + want);
        }
    }

    private static void fill(LampWall x, int k, int lane, int... cells) {
        x.sheet(k, lane, cells.length);
        for (int i = 0; i < cells.length; i++) {
            x.put(k, i, cells[i]);
        }
    }

    private static int take(LampWall x, String text) {
        fill(x, 3, 0, text.chars().toArray());
        return x.wall(3, 0, 0, text.length());
    }

    private static LampWall walled(String text) {
        LampWall x = new LampWall();
        int modules = take(x, text);
        if (modules < 1) {
            due("wall of " + text, modules, 1);
        }
        return x;
    }

    private static int set(int... numbers) {
        int bits = 0;
        for (int k : numbers) {
            bits |= 1 << k;
        }
        return bits;
    }

    public static void main(String[] args) {
        Runnable[] promises = {
            PromiseTest::newObject, PromiseTest::wall, PromiseTest::ofModule, PromiseTest::ofLamp,
            PromiseTest::level, PromiseTest::die, PromiseTest::cut, PromiseTest::ofUnit,
            PromiseTest::slices, PromiseTest::bears, PromiseTest::steadiest, PromiseTest::send,
            PromiseTest::day, PromiseTest::reading, PromiseTest::back, PromiseTest::kinds,
            PromiseTest::levels, PromiseTest::cuts, PromiseTest::odds, PromiseTest::sheet,
            PromiseTest::lose, PromiseTest::put, PromiseTest::cell, PromiseTest::copy,
            PromiseTest::tell, PromiseTest::switchOn, PromiseTest::as, PromiseTest::trace,
            PromiseTest::fault, PromiseTest::many,
        };
        for (Runnable test : promises) {
            promise++;
            test.run();
        }
        System.out.println(checks + " checks of " + promises.length + " promises, " + wrong + " wrong");
        if (wrong != 0) {
            System.exit(1);
        }
    }

    private static void newObject() {
        LampWall x = new LampWall();
        for (int what = 0; what <= 5; what++) {
            due("many(" + what + ")", x.many(what), 0);
        }
        for (int k = 0; k < 4; k++) {
            due("put on nothing", x.put(k, 0, 1), NULL);
            due("cell of nothing", x.cell(k, 0, 0), LOST);
            due("lose nothing", x.lose(k), 0);
        }
        due("ofModule", x.ofModule(0, 0), U);
        due("ofLamp", x.ofLamp(0, 0), U);
        due("level", x.level(0, 0), U);
        due("die", x.die(0), U);
        due("reading", x.reading(0, 0, 0), U);
        due("kinds", x.kinds(0), U);
        due("levels", x.levels(0), U);
        due("tell", x.tell(0), U);
        due("switchOn", x.switchOn(0), U);
        due("as", x.as(0, 0), U);
        due("back", x.back(0), 0);
        due("back", x.back(1), O);
        due("trace", x.trace(), 0);
        due("fault", new LampWall().fault(), 0);
    }

    private static void wall() {
        LampWall x = new LampWall();
        String[] taken = {"w1;p0", "w8;b9", "w3;h1234", "w5;p1;h2;b3;p4", "w2;p1234;h5678;b9012;p3456"};
        for (String text : taken) {
            due(text, take(x, text), (int) text.chars().filter(c -> c == ';').count());
        }
        wallFirstFaults(x);
        wallRefusals();
        wallMakesAnew();
    }

    private static void wallFirstFaults(LampWall x) {
        due("no code", take(x, ""), -100);
        due("x", take(x, "x"), -100);
        due("ends behind w", take(x, "w"), -101);
        due("CUT 0", take(x, "w0;p1"), -101);
        due("CUT 9", take(x, "w9;p1"), -101);
        due("no MODULE", take(x, "w3"), -102);
        due("no ;", take(x, "w3p1"), -102);
        due("two digits of CUT", take(x, "w33;p1"), -102);
        due("ends behind ;", take(x, "w3;"), -103);
        due("a letter that is no kind", take(x, "w3;q1"), -103);
        due("a capital letter", take(x, "w3;P1"), -103);
        due("no LEVEL", take(x, "w3;p"), -104);
        due("; for a LEVEL", take(x, "w3;p;h1"), -104);
        due("a sign for a second LEVEL", take(x, "w3;p1:"), -105);
        due("a code below 0", take(x, "w3;p1/"), -105);
        due("fifth LEVEL", take(x, "w3;p12345"), -108);
        due("fifth MODULE", take(x, "w3;p1;p2;p3;p4;p5"), -114);
        due("fifth MODULE behind full ones", take(x, "w3;p1234;p1234;p1234;p1234;"), -126);
        due("as it was ahead of the faults", x.many(1), 16);
    }

    private static void wallRefusals() {
        LampWall x = new LampWall();
        fill(x, 1, 1, 0, 'w', '4', ';', 'b', '7', '0' + 256);
        due("from i on", x.wall(1, 1, 1, 5), 1);
        due("a code that is '0' only as a byte", x.wall(1, 1, 1, 6), -105);
        for (int k : WRONG) {
            due("sheet", x.wall(k, 9, 0, 0), U);
            due("lane", x.wall(1, k, 0, 0), O);
        }
        due("sheet 4", x.wall(4, 0, 0, 0), U);
        due("lane 3", x.wall(1, 3, 0, -1), O);
        due("CAST ahead of SIZE", x.wall(1, 0, 0, -1), CAST);
        due("NULL ahead of SIZE", x.wall(0, 0, 0, -1), NULL);
        due("SIZE ahead of INDEX", x.wall(1, 1, -1, -1), SIZE);
        due("i below 0", x.wall(1, 1, -1, 0), INDEX);
        due("i beyond, none taken", x.wall(1, 1, 8, 0), INDEX);
        due("i at the end, none taken", x.wall(1, 1, 7, 0), -100);
        due("n beyond", x.wall(1, 1, 3, 5), INDEX);
        due("no wrap", x.wall(1, 1, 1, Integer.MAX_VALUE), INDEX);
        due("no wrap", x.wall(1, 1, Integer.MAX_VALUE, Integer.MAX_VALUE), INDEX);
    }

    private static void wallMakesAnew() {
        LampWall x = walled("w3;p5;h6");
        x.die(0);
        x.reading(0, 0, 1);
        x.tell(0);
        x.kinds(0);
        due("a fault changes nothing", take(x, "w4;p1;"), -106);
        due("DEAD", x.many(2), 1);
        due("READINGS", x.many(4), 1);
        due("CUT", x.many(5), 3);
        due("anew", take(x, "w4;b1;p22"), 2);
        due("DEAD", x.many(2), 0);
        due("READINGS", x.many(4), 0);
        due("LAMPS", x.many(1), 3);
        due("CUT", x.many(5), 4);
        due("LIGHT", x.many(3), 5);
        due("TRACE stays", x.trace(), 1);
    }

    private static void ofModule() {
        LampWall x = walled("w3;p53;h9;b601");
        int[][] want = {{0, 2, 0, 0, 0}, {1, 1, 2, 0, 1}, {2, 3, 3, 0, 2}};
        for (int m = 0; m < 3; m++) {
            for (int what = 0; what < 5; what++) {
                due("ofModule(" + m + ", " + what + ")", x.ofModule(m, what), want[m][what]);
            }
        }
        x.die(0);
        x.die(2);
        due("DEAD", x.ofModule(0, 3), 1);
        due("place of a DEAD one", x.ofModule(0, 4), NONE);
        due("place behind a DEAD one", x.ofModule(1, 4), 0);
        due("kind of a DEAD one", x.ofModule(2, 0), 2);
        x.die(0);
        due("back", x.ofModule(0, 4), 0);
        due("behind it", x.ofModule(1, 4), 1);
        due("no MODULE", x.ofModule(3, 9), U);
        for (int wrongOne : WRONG) {
            due("no MODULE", x.ofModule(wrongOne, 0), U);
            due("what", x.ofModule(0, wrongOne), O);
        }
        due("what 5", x.ofModule(2, 5), O);
    }

    private static void ofLamp() {
        LampWall x = walled("w3;p53;h9;b609");
        int[][] want = {
            {0, 5, 5, 5, 6, set(3, 4, 5, 8, 12), 0},
            {0, 3, 3, 12, 2, set(6, 7, 8), set(3, 4, 5, 12)},
            {1, 9, 4, 6, 4, set(3, 4, 5, 12), 0},
            {2, 6, 9, 5, 4, set(0, 1, 2, 8, 9, 10, 11, 13, 14), 0},
            {2, 0, 0, 15, 0, 0, set(0, 1, 2, 8, 9, 10, 11, 13, 14)},
            {2, 9, 13, 2, 2, set(0, 1, 2, 3, 4, 5, 8, 9, 10, 11, 12, 13, 14), 0},
        };
        for (int l = 0; l < want.length; l++) {
            for (int what = 0; what < 7; what++) {
                due("ofLamp(" + l + ", " + what + ")", x.ofLamp(l, what), want[l][what]);
            }
        }
        x.die(2);
        int[] dark = {2, 6, 0, 15, 0, 0, 0};
        for (int what = 0; what < 7; what++) {
            due("of a DEAD one, " + what, x.ofLamp(3, what), dark[what]);
        }
        due("no ghost of a DEAD one", x.ofLamp(4, 6), 0);
        due("no LAMP", x.ofLamp(6, 9), U);
        for (int wrongOne : WRONG) {
            due("no LAMP", x.ofLamp(wrongOne, 0), U);
            due("what", x.ofLamp(0, wrongOne), O);
        }
        due("what 7", x.ofLamp(5, 7), O);
        ofLampOverTheEnd();
    }

    private static void ofLampOverTheEnd() {
        LampWall x = walled("w8;p2481");
        due("dark over the end", x.ofLamp(0, 3), 13);
        due("dark over the end", x.ofLamp(1, 3), 11);
        due("dark at the end alone", x.ofLamp(2, 3), 7);
        due("dark but for the last", x.ofLamp(3, 3), 14);
        due("turns over the end", x.ofLamp(2, 4), 2);
        due("turns over the end", x.ofLamp(3, 4), 2);
        x.cut(1);
        due("units by CUT 1", x.ofLamp(2, 5), set(0, 4, 7, 9, 11, 12, 13, 14));
        due("turns by CUT 1", x.ofLamp(2, 4), 8);
        due("dark by CUT 1", x.ofLamp(2, 3), 3);
    }

    private static void level() {
        LampWall x = walled("w3;p53;h9");
        due("level", x.level(1, 0), 3);
        due("what it was", x.level(1, 9), 0);
        due("LEVEL", x.ofLamp(1, 1), 9);
        due("LIGHT", x.ofLamp(1, 2), 9);
        due("another", x.ofLamp(0, 1), 5);
        x.die(1);
        due("of a DEAD one", x.level(2, 7), 9);
        due("its LIGHT", x.ofLamp(2, 2), 0);
        x.die(1);
        due("its LIGHT, back", x.ofLamp(2, 2), 3);
        for (int wrongOne : WRONG) {
            due("no LAMP", x.level(wrongOne, 99), U);
            due("OUTSIDE", x.level(0, wrongOne), O);
        }
        due("no LAMP", x.level(3, 0), U);
        due("OUTSIDE", x.level(0, 10), O);
        due("nothing changed", x.ofLamp(0, 1), 5);
    }

    private static void die() {
        LampWall x = walled("w3;p53;h9");
        due("dies", x.die(1), 1);
        due("LIGHT", x.many(3), 8);
        due("dies", x.die(0), 1);
        due("DEAD", x.many(2), 2);
        due("LIGHT", x.many(3), 0);
        due("comes back", x.die(1), 0);
        due("LIGHT", x.many(3), 4);
        for (int wrongOne : WRONG) {
            due("no MODULE", x.die(wrongOne), U);
        }
        due("no MODULE", x.die(2), U);
        due("DEAD", x.many(2), 1);
    }

    private static void cut() {
        LampWall x = new LampWall();
        due("OUTSIDE ahead of STATE", x.cut(0), O);
        due("OUTSIDE ahead of STATE", x.cut(9), O);
        due("STATE", x.cut(1), S);
        take(x, "w3;p5");
        due("cut", x.cut(8), 3);
        due("what it was", x.cut(1), 8);
        due("CUT", x.many(5), 1);
        for (int wrongOne : WRONG) {
            due("OUTSIDE", x.cut(wrongOne), O);
        }
        due("OUTSIDE", x.cut(0), O);
        due("OUTSIDE", x.cut(9), O);
        due("CUT", x.many(5), 1);
    }

    private static final String[] PLANES_BY_CUT = {
        "321032132323333", "332211033223333", "333222110333233", "333322221103333",
        "333332222110333", "333333222211033", "333333322221103", "333333332222110",
    };
    private static final String[] SLICES_BY_CUT = {
        "000011122334567", "000000011112233", "000000000111122", "000000000001111",
        "000000000000111", "000000000000011", "000000000000001", "000000000000000",
    };

    private static void ofUnit() {
        LampWall x = new LampWall();
        due("OUTSIDE ahead of STATE", x.ofUnit(15, 0), O);
        due("OUTSIDE ahead of STATE", x.ofUnit(0, 5), O);
        due("STATE", x.ofUnit(0, 0), S);
        take(x, "w1;p81;b36");
        for (int c = 1; c <= 8; c++) {
            x.cut(c);
            for (int t = 0; t < 15; t++) {
                due("PLANE of " + t + " by CUT " + c, x.ofUnit(t, 0), PLANES_BY_CUT[c - 1].charAt(t) - '0');
                due("SLICE of " + t + " by CUT " + c, x.ofUnit(t, 3), SLICES_BY_CUT[c - 1].charAt(t) - '0');
            }
        }
        int[] litByPlane = {set(1, 3), set(), set(2), set(0, 3)};
        int[] ghostsByPlane = {0, 0, 1, 1};
        for (int t = 0; t < 15; t++) {
            int plane = PLANES_BY_CUT[7].charAt(t) - '0';
            due("CURRENT of " + t, x.ofUnit(t, 1), Integer.bitCount(litByPlane[plane]));
            due("LIT in " + t, x.ofUnit(t, 2), litByPlane[plane]);
            due("ghosts in " + t, x.ofUnit(t, 4), ghostsByPlane[plane]);
        }
        x.die(0);
        due("LIT without a DEAD one", x.ofUnit(0, 2), set(3));
        due("ghosts without a DEAD one", x.ofUnit(0, 4), 0);
        for (int wrongOne : WRONG) {
            due("OUTSIDE", x.ofUnit(wrongOne, 0), O);
            due("OUTSIDE", x.ofUnit(0, wrongOne), O);
        }
        due("OUTSIDE", x.ofUnit(15, 0), O);
        due("OUTSIDE", x.ofUnit(14, 5), O);
    }

    private static void slices() {
        LampWall x = new LampWall();
        due("OUTSIDE ahead of STATE", x.slices(4), O);
        due("OUTSIDE ahead of STATE", x.slices(-2), O);
        due("STATE", x.slices(-1), S);
        take(x, "w1;p8");
        int[][] want = {{1, 2, 4, 8, 15}, {1, 1, 2, 4, 8}, {1, 1, 2, 3, 7}, {1, 1, 1, 2, 5},
            {1, 1, 1, 2, 5}, {1, 1, 1, 2, 5}, {1, 1, 1, 2, 5}, {1, 1, 1, 1, 4}};
        for (int c = 1; c <= 8; c++) {
            x.cut(c);
            for (int plane = 0; plane < 4; plane++) {
                due("slices(" + plane + ") by CUT " + c, x.slices(plane), want[c - 1][plane]);
            }
            due("slices(-1) by CUT " + c, x.slices(-1), want[c - 1][4]);
        }
        due("OUTSIDE", x.slices(4), O);
        due("OUTSIDE", x.slices(-2), O);
        due("OUTSIDE", x.slices(Integer.MAX_VALUE), O);
        due("OUTSIDE", x.slices(Integer.MIN_VALUE), O);
    }

    private static void bears() {
        LampWall x = new LampWall();
        due("OUTSIDE ahead of STATE", x.bears(17), O);
        due("STATE", x.bears(0), S);
        take(x, "w3;p99");
        due("two alike, 0", x.bears(0), 1);
        due("two alike, 1", x.bears(1), 1);
        due("two alike, 2", x.bears(2), 15);
        take(x, "w3;p97");
        due("0", x.bears(0), 1);
        due("one that less than it would not bear", x.bears(1), 14);
        due("2", x.bears(2), 15);
        take(x, "w3;b9;h9");
        due("by LIGHT, not by LEVEL", x.bears(1), 14);
        due("16", x.bears(16), 15);
        x.die(0);
        due("a DEAD one draws nothing", x.bears(1), 15);
        due("0, of LIGHT 4", x.bears(0), 3);
        x.die(1);
        due("nothing is drawn", x.bears(0), 15);
        for (int wrongOne : WRONG) {
            due("OUTSIDE", x.bears(wrongOne), O);
        }
        due("OUTSIDE", x.bears(17), O);
    }

    private static void steadiest() {
        LampWall x = new LampWall();
        due("OUTSIDE ahead of STATE", x.steadiest(3), O);
        due("STATE", x.steadiest(0), S);
        take(x, "w2;p5");
        due("the least CUT of several", x.steadiest(0), 1);
        due("DARK by it", x.steadiest(1), 5);
        due("DARK by CUT as it is", x.steadiest(2), 6);
        due("CUT stays", x.many(5), 2);
        int[] darkOfFive = {5, 6, 5, 8, 8, 8, 8, 8};
        for (int c = 1; c <= 8; c++) {
            x.cut(c);
            due("DARK by CUT " + c, x.steadiest(2), darkOfFive[c - 1]);
        }
        x.level(0, 8);
        due("DARK by it, of a LEVEL told anew", x.steadiest(1), 3);
        take(x, "w8;p81;b36");
        due("DARK of all", x.steadiest(2), 38);
        due("STEADIEST", x.steadiest(0), 1);
        due("DARK of all by it", x.steadiest(1), 3 + 14 + 5 + 2);
        x.die(1);
        due("DARK with DEAD ones", x.steadiest(2), 7 + 14 + 15 + 15);
        for (int wrongOne : WRONG) {
            due("OUTSIDE", x.steadiest(wrongOne), O);
        }
        due("OUTSIDE", x.steadiest(3), O);
    }

    private static void send() {
        LampWall x = new LampWall();
        fill(x, 0, 1, 1, 2, 3, 4, 5, 6, 7, 8, 9, 0, 10, -1);
        due("STATE", x.send(0, 1, 0, 0), S);
        due("OUTSIDE ahead of STATE", x.send(0, 1, 0, 21), O);
        due("OUTSIDE ahead of STATE", x.send(0, 3, 0, 0), O);
        due("UNKNOWN ahead of it", x.send(4, 3, 0, 0), U);
        due("STATE ahead of CAST", x.send(0, 0, 0, 0), S);
        take(x, "w3;p00;h000;b0;p0000");
        due("two MODULES and what is left", x.send(0, 1, 1, 5), 0);
        sent(x, "2345600000");
        due("none behind one that lacks", x.send(0, 1, 0, 4), 2);
        sent(x, "1245600000");
        x.die(1);
        due("past a DEAD one", x.send(0, 1, 5, 4), 1);
        sent(x, "6745680000");
        x.die(1);
        due("all", x.send(0, 1, 0, 10), 0);
        sent(x, "1234567890");
        due("none", x.send(0, 1, 12, 0), 0);
        due("too few for the first", x.send(0, 1, 9, 1), 1);
        for (int m = 0; m < 4; m++) {
            x.die(m);
        }
        due("all DEAD", x.send(0, 1, 0, 10), 10);
        sent(x, "1234567890");
        sendRefusals(x);
        sent(x, "1234567890");
    }

    private static void sent(LampWall x, String levels) {
        for (int l = 0; l < levels.length(); l++) {
            due("LEVEL of " + l, x.ofLamp(l, 1), levels.charAt(l) - '0');
        }
    }

    private static void sendRefusals(LampWall x) {
        for (int wrongOne : WRONG) {
            due("UNKNOWN", x.send(wrongOne, 1, 0, 0), U);
            due("lane", x.send(0, wrongOne, 0, 0), O);
            due("n", x.send(0, 1, 0, wrongOne), O);
        }
        due("n", x.send(0, 1, 0, 21), O);
        due("n is no INDEX", x.send(0, 1, 0, 20), INDEX);
        due("CAST ahead of INDEX", x.send(0, 2, -1, 1), CAST);
        due("NULL ahead of INDEX", x.send(2, 2, -1, 1), NULL);
        due("INDEX", x.send(0, 1, -1, 0), INDEX);
        due("INDEX", x.send(0, 1, 13, 0), INDEX);
        due("INDEX ahead of a cell", x.send(0, 1, 10, 3), INDEX);
        x.die(0);
        due("a cell that nobody would take", x.send(0, 1, 0, 11), O);
        due("a cell below 0", x.send(0, 1, 11, 1), O);
        due("its fault", x.fault(), 0);
    }

    private static void day() {
        LampWall x = new LampWall();
        fill(x, 1, 2, 1, 0, 0, 31, 0, 31, 3, 20, 9, 3, 5, 4, 0, 32);
        due("STATE", x.day(1, 2, 0, 0, 0), S);
        take(x, "w8;p81;b36");
        dayIs(x, 0, 0, 22, NONE, 2, 38, 12, 8);
        dayIs(x, 0, 1, 15, NONE, 3, 14 + 14 + 11 + 6, 4, 1);
        dayIs(x, 0, 2, 2, NONE, 2, 14 + 14 + 15 + 15, 0, 1);
        dayIs(x, 0, 3, 15, NONE, 3, 14 + 14 + 11 + 6, 4, 1);
        dayIs(x, 2, 1, 9, NONE, 1, 7 + 14 + 15 + 15, 8, 8);
        dayIs(x, 6, 1, 22, NONE, 2, 6 + 14 + 6 + 5, 12, 8);
        dayIs(x, 8, 1, 26, NONE, 2, 7 + 14 + 11 + 2, 8, 8);
        dayIs(x, 6, 3, -102, 2, -102, -102, -102, -102);
        dayIs(x, 12, 1, -100, 0, -100, -100, -100, -100);
        fill(x, 0, 0, 0, 30);
        due("MODULE 0 dies", x.day(0, 0, 0, 1, 0), 13);
        due("LEVEL of the last", x.day(1, 2, 8, 1, 13), 9);
        due("LEVEL of no LAMP", x.day(1, 2, 8, 1, 14), NONE);
        due("LEVEL of no LAMP", x.day(1, 2, 8, 1, 25), NONE);
        due("LEVEL of no LAMP, wrong", x.day(1, 2, 10, 1, 25), -100);
        due("nothing is changed", x.many(3), 22);
        due("nothing is changed", x.many(5), 8);
        due("nothing is changed", x.many(2), 0);
        x.die(1);
        due("comes back", x.day(1, 2, 2, 1, 0), 22);
        due("LEVEL in a DEAD one", x.day(1, 2, 8, 1, 13), 9);
        due("its LIGHT", x.day(1, 2, 8, 1, 0), 9);
        dayRefusals(x);
    }

    private static void dayIs(LampWall x, int i, int n, int... want) {
        for (int what = 0; what < 5; what++) {
            due("day from " + i + ", " + n + ", what " + what, x.day(1, 2, i, n, what), want[what]);
        }
        due("day from " + i + ", " + n + ", LEVEL", x.day(1, 2, i, n, 10), want[5]);
    }

    private static void dayRefusals(LampWall x) {
        fill(x, 0, 2, 0, 16, 0, 19, 0, 21, 0, 29, 0, 34, 0, -1, 10, 0, -1, 15, 0, 20, 9, 20, 1, 30, -1, 33);
        for (int i = 0; i < 24; i += 2) {
            due("pair from " + i, x.day(0, 2, i, 1, 1), O);
        }
        fill(x, 0, 2, 9, 15, 0, 16);
        due("the wrong act alone", x.day(0, 2, 0, 1, 1), 0);
        due("OUTSIDE of a pair behind the FIRST WRONG", x.day(0, 2, 0, 2, 1), O);
        due("UNKNOWN ahead of OUTSIDE", x.day(4, 3, 0, 0, 0), U);
        for (int wrongOne : WRONG) {
            due("sheet", x.day(wrongOne, 2, 0, 0, 0), U);
            due("lane", x.day(0, wrongOne, 0, 0, 0), O);
            due("n", x.day(0, 2, 0, wrongOne, 0), O);
            due("what", x.day(0, 2, 0, 0, wrongOne), O);
        }
        for (int what : new int[] {5, 9, 26}) {
            due("what", x.day(0, 2, 0, 0, what), O);
        }
        due("n", x.day(0, 2, 0, 21, 0), O);
        due("n is no INDEX", x.day(0, 2, 0, 20, 0), INDEX);
        due("what, ahead of NULL", x.day(2, 0, 0, 0, 5), O);
        due("CAST ahead of INDEX", x.day(0, 1, -1, 0, 0), CAST);
        due("NULL ahead of INDEX", x.day(2, 1, -1, 0, 0), NULL);
        due("INDEX", x.day(0, 2, 3, 1, 0), INDEX);
        due("INDEX, none taken", x.day(0, 2, 5, 0, 1), INDEX);
        due("at the end, none taken", x.day(0, 2, 4, 0, 1), NONE);
        LampWall none = new LampWall();
        due("OUTSIDE ahead of STATE", none.day(0, 0, 0, 21, 0), O);
        due("STATE ahead of NULL", none.day(0, 0, 0, 0, 0), S);
    }

    private static void reading() {
        LampWall x = walled("w3;p53");
        for (int wrongOne : WRONG) {
            due("LAMP", x.reading(99, wrongOne, 9), U);
            due("unit", x.reading(wrongOne, 0, 0), O);
            due("lit", x.reading(0, 0, wrongOne), O);
        }
        due("LAMP", x.reading(0, 2, 0), U);
        due("unit", x.reading(15, 0, 0), O);
        due("lit", x.reading(0, 0, 2), O);
        for (int r = 0; r < 8; r++) {
            due("its number", x.reading(14 - r, 1, r & 1), r);
        }
        due("FULL", x.reading(0, 0, 0), F);
        due("OUTSIDE ahead of FULL", x.reading(15, 0, 0), O);
        due("READINGS", x.many(4), 8);
        x.back(1);
        due("its number", x.reading(0, 0, 0), 7);
    }

    private static void back() {
        LampWall x = walled("w3;p5");
        due("none", x.back(0), 0);
        due("more than there are", x.back(1), O);
        x.reading(3, 0, 1);
        x.reading(0, 0, 1);
        x.reading(8, 0, 0);
        due("LEVELS by all", x.levels(0), 0);
        due("one back", x.back(1), 2);
        due("two back", x.back(2), 0);
        due("LEVELS by none", x.levels(0), 1023);
        x.reading(3, 0, 1);
        x.reading(0, 0, 1);
        due("the last is taken, not the first", x.back(1), 1);
        due("LEVELS by the first", x.levels(0), set(4, 5, 6, 7));
        for (int wrongOne : WRONG) {
            due("OUTSIDE", x.back(wrongOne), O);
        }
        due("OUTSIDE", x.back(2), O);
        due("READINGS", x.many(4), 1);
    }

    private static void kinds() {
        LampWall x = walled("w3;p5;b6");
        due("all without READINGS", x.kinds(0), 7);
        x.reading(3, 0, 1);
        due("LIGHT 5, 2, 7 has 4", x.kinds(0), set(0, 2));
        due("another MODULE", x.kinds(1), 7);
        x.reading(0, 1, 1);
        due("LIGHT 6, 3, 9 has 8", x.kinds(1), set(2));
        x.reading(6, 0, 1);
        due("a READING that is not so of another", x.kinds(1), 0);
        due("LIGHT 7 alone has 4 and 2", x.kinds(0), set(2));
        x.back(3);
        x.die(0);
        x.reading(3, 0, 0);
        due("a DEAD one is not LIT by any", x.kinds(0), 7);
        x.reading(3, 0, 1);
        due("a DEAD one is LIT by none", x.kinds(0), 0);
        due("the kind stays", x.ofModule(0, 0), 0);
        for (int wrongOne : WRONG) {
            due("UNKNOWN", x.kinds(wrongOne), U);
        }
        due("UNKNOWN", x.kinds(2), U);
    }

    private static void levels() {
        LampWall x = walled("w3;p5;h6;b2");
        due("all without READINGS", x.levels(2), 1023);
        x.reading(6, 1, 1);
        due("half of it has 2", x.levels(1), set(4, 5, 6, 7));
        due("another LAMP", x.levels(0), 1023);
        x.reading(0, 2, 0);
        due("it and its half have no 8", x.levels(2), set(0, 1, 2, 3, 4, 5));
        x.reading(8, 2, 1);
        due("and have 1", x.levels(2), set(1, 2, 5));
        x.reading(0, 0, 1);
        due("a READING that is not so of another", x.levels(1), 0);
        due("8 and more", x.levels(0), set(8, 9));
        due("the LEVEL stays", x.ofLamp(0, 1), 5);
        for (int wrongOne : WRONG) {
            due("UNKNOWN", x.levels(wrongOne), U);
        }
        due("UNKNOWN", x.levels(3), U);
    }

    private static void cuts() {
        LampWall x = new LampWall();
        due("STATE", x.cuts(), S);
        take(x, "w3;p4");
        due("all without READINGS", x.cuts(), 510);
        x.reading(4, 0, 1);
        due("PLANE 2 in unit 4", x.cuts(), set(3, 4));
        x.reading(12, 0, 1);
        due("and in unit 12", x.cuts(), set(3));
        x.reading(12, 0, 0);
        due("and not in it", x.cuts(), 0);
        x.back(3);
        x.reading(0, 0, 1);
        due("PLANE 3 is in unit 0 by all", x.cuts(), 0);
        x.level(0, 8);
        due("by a LEVEL told anew", x.cuts(), 510);
        x.level(0, 4);
        due("CUT stays", x.many(5), 3);
        due("the FRAME stays", x.ofLamp(0, 5), set(3, 4, 5, 12));
    }

    private static void share(LampWall x, int t, int n, long upper, long lower) {
        due("odds(" + t + ", " + n + ", 0)", x.odds(t, n, 0), upper);
        due("odds(" + t + ", " + n + ", 1)", x.odds(t, n, 1), lower);
    }

    private static void odds() {
        LampWall x = new LampWall();
        due("STATE", x.odds(0, 0, 0), LOST);
        take(x, "w8;p5");
        shareOfOne(x, new int[] {1, 5, 2, 5, 2, 5, 1, 2});
        take(x, "w8;h5");
        shareOfOne(x, new int[] {0, 1, 1, 5, 2, 5, 2, 5});
        take(x, "w8;b5");
        shareOfOne(x, new int[] {2, 5, 1, 2, 2, 5, 1, 2});
        take(x, "w8;p5;h7");
        share(x, 14, 1, 7, 10);
        share(x, 14, 2, 1, 5);
        x.die(0);
        share(x, 14, 1, 2, 5);
        share(x, 14, 2, 0, 1);
        x.die(1);
        share(x, 14, 0, 1, 1);
        share(x, 14, 1, 0, 1);
        take(x, "w8;p0000;p0000;p0000;p0000");
        share(x, 0, 16, 1, 152587890625L);
        share(x, 0, 1, 148292923329L, 152587890625L);
        share(x, 0, 0, 1, 1);
        for (int wrongOne : WRONG) {
            due("unit", x.odds(wrongOne, 0, 0), LOST);
            due("n", x.odds(0, wrongOne, 0), LOST);
            due("which", x.odds(0, 0, wrongOne), LOST);
        }
        due("unit", x.odds(15, 0, 0), LOST);
        due("n", x.odds(0, 17, 0), LOST);
        due("which", x.odds(0, 0, 2), LOST);
    }

    /** The share of LEVELS that light one LAMP in PLANES 3, 2, 1, 0, as upper and lower numbers. */
    private static void shareOfOne(LampWall x, int[] shares) {
        int[] units = {0, 8, 12, 14};
        for (int p = 0; p < 4; p++) {
            share(x, units[p], 0, 1, 1);
            share(x, units[p], 1, shares[2 * p], shares[2 * p + 1]);
            share(x, units[p], 2, 0, 1);
        }
    }

    private static void sheet() {
        LampWall x = new LampWall();
        due("sheet", x.sheet(0, 2, 60), 1);
        due("put", x.put(0, 59, 7), 1);
        due("a new row", x.sheet(0, 2, 60), 1);
        due("0 at first", x.cell(0, 59, 2), 0);
        due("an empty row", x.sheet(0, 1, 0), 1);
        due("no cell", x.put(0, 0, 1), INDEX);
        due("is not nothing", x.lose(0), 1);
        for (int wrongOne : WRONG) {
            due("UNKNOWN", x.sheet(wrongOne, 9, 99), U);
            due("lane", x.sheet(0, wrongOne, 1), O);
        }
        due("UNKNOWN", x.sheet(4, 0, 1), U);
        due("lane", x.sheet(0, 3, -1), O);
        due("n", x.sheet(0, 0, 61), O);
        due("n", x.sheet(0, 0, Integer.MAX_VALUE), O);
        x.sheet(3, 2, 2);
        x.put(3, 1, 5);
        due("SIZE", x.sheet(3, 0, -1), SIZE);
        due("SIZE", x.sheet(3, 0, Integer.MIN_VALUE), SIZE);
        due("fault", x.fault(), 4);
        due("nothing changed", x.cell(3, 1, 2), 5);
    }

    private static void lose() {
        LampWall x = new LampWall();
        due("had nothing", x.lose(3), 0);
        x.sheet(3, 0, 0);
        due("had a row", x.lose(3), 1);
        due("had nothing", x.lose(3), 0);
        due("nothing", x.put(3, 0, 0), NULL);
        due("names no FAULT", x.lose(3), 0);
        due("so it leaves this", x.fault(), 1);
        for (int wrongOne : WRONG) {
            due("UNKNOWN", x.lose(wrongOne), U);
        }
        due("UNKNOWN", x.lose(4), U);
    }

    private static void put() {
        LampWall x = new LampWall();
        long[] cutTo = {(byte) 70001, (short) 70001, 70001};
        long[] cutHigh = {-1, -1, Integer.MAX_VALUE};
        for (int lane = 0; lane < 3; lane++) {
            x.sheet(lane, lane, 3);
            due("put", x.put(lane, 0, 70001), 1);
            due("put", x.put(lane, 2, Integer.MAX_VALUE), 1);
            due("cut to its LANE", x.cell(lane, 0, lane), cutTo[lane]);
            due("cut to its LANE", x.cell(lane, 2, lane), cutHigh[lane]);
            due("another", x.cell(lane, 1, lane), 0);
            due("INDEX", x.put(lane, 3, 1), INDEX);
            due("INDEX", x.put(lane, -1, 1), INDEX);
            due("INDEX", x.put(lane, Integer.MAX_VALUE, 1), INDEX);
            due("INDEX", x.put(lane, Integer.MIN_VALUE, 1), INDEX);
        }
        x.put(0, 0, 128);
        due("a byte", x.cell(0, 0, 0), -128);
        x.put(1, 0, 32768);
        due("a short", x.cell(1, 0, 1), -32768);
        due("NULL ahead of INDEX", x.put(3, -1, 1), NULL);
        for (int wrongOne : WRONG) {
            due("UNKNOWN", x.put(wrongOne, -1, 1), U);
        }
        due("UNKNOWN", x.put(4, 0, 1), U);
    }

    private static void lostBy(LampWall x, long got, int fault) {
        due("cell", got, LOST);
        due("fault of cell", x.fault(), fault);
    }

    private static void cell() {
        LampWall x = new LampWall();
        fill(x, 1, 1, 5, -6);
        due("cell", x.cell(1, 0, 1), 5);
        due("cell", x.cell(1, 1, 1), -6);
        due("fault", x.fault(), 0);
        lostBy(x, x.cell(1, 2, 1), 3);
        lostBy(x, x.cell(1, -1, 1), 3);
        lostBy(x, x.cell(1, -1, 0), 2);
        lostBy(x, x.cell(1, 0, 2), 2);
        lostBy(x, x.cell(0, -1, 2), 1);
        lostBy(x, x.cell(4, 0, 0), 0);
        lostBy(x, x.cell(1, -1, 0), 2);
        lostBy(x, x.cell(1, 0, 3), 0);
        for (int wrongOne : WRONG) {
            lostBy(x, x.cell(wrongOne, 0, 0), 0);
            lostBy(x, x.cell(0, 0, wrongOne), 0);
        }
    }

    private static void cellsAre(LampWall x, int k, int lane, int... cells) {
        for (int i = 0; i < cells.length; i++) {
            due("cell " + i + " of " + k, x.cell(k, i, lane), cells[i]);
        }
    }

    private static void copy() {
        LampWall x = new LampWall();
        fill(x, 0, 0, 1, 2, 3, 4, 5);
        fill(x, 1, 0, 9, 9);
        fill(x, 2, 1, 7);
        due("copy", x.copy(0, 2, 1, 0, 2), 2);
        cellsAre(x, 1, 0, 3, 4);
        due("as they were, up", x.copy(0, 0, 0, 1, 4), 4);
        cellsAre(x, 0, 0, 1, 1, 2, 3, 4);
        due("as they were, down", x.copy(0, 1, 0, 0, 4), 4);
        cellsAre(x, 0, 0, 1, 2, 3, 4, 4);
        due("none, at the ends", x.copy(0, 5, 1, 2, 0), 0);
        int[][] beyond = {{6, 0, 0}, {0, 3, 0}, {-1, 0, 0}, {0, -1, 0}, {0, 0, -1}, {4, 0, 2}, {0, 1, 2},
            {0, 0, 3}, {1, 1, Integer.MAX_VALUE}, {Integer.MAX_VALUE, 0, 1}, {0, Integer.MAX_VALUE, 1},
            {1, 1, Integer.MIN_VALUE}};
        for (int[] c : beyond) {
            due("INDEX", x.copy(0, c[0], 1, c[1], c[2]), INDEX);
        }
        cellsAre(x, 1, 0, 3, 4);
        due("CAST ahead of INDEX", x.copy(0, -1, 2, 0, 0), CAST);
        due("NULL, the first", x.copy(3, -1, 2, 0, 0), NULL);
        due("NULL, the other", x.copy(0, -1, 3, 0, 0), NULL);
        for (int wrongOne : WRONG) {
            due("UNKNOWN", x.copy(wrongOne, 0, 3, 0, 0), U);
            due("UNKNOWN", x.copy(3, 0, wrongOne, 0, 0), U);
        }
        due("UNKNOWN", x.copy(4, 0, 0, 0, 0), U);
        due("UNKNOWN", x.copy(0, 0, 4, 0, 0), U);
    }

    private static void tell() {
        LampWall x = walled("w3;p123;h12;b1234");
        due("PLAIN", x.tell(0), 3);
        due("HALVED", x.tell(1), 102);
        due("BRIGHT", x.tell(2), 108);
        x.die(2);
        due("a DEAD one", x.tell(2), 108);
        for (int wrongOne : WRONG) {
            due("UNKNOWN", x.tell(wrongOne), U);
        }
        due("UNKNOWN", x.tell(3), U);
    }

    private static void switchOn() {
        LampWall x = walled("w3;p123;h89;b1234");
        due("PLAIN", x.switchOn(0), 6);
        due("HALVED", x.switchOn(1), 17);
        due("BRIGHT", x.switchOn(2), 60);
        x.die(1);
        due("a DEAD one", x.switchOn(1), 17);
        for (int wrongOne : WRONG) {
            due("UNKNOWN", x.switchOn(wrongOne), U);
        }
        due("UNKNOWN", x.switchOn(3), U);
    }

    private static void as() {
        LampWall x = walled("w3;p1;h1;b1");
        for (int m = 0; m < 3; m++) {
            for (int kind = 0; kind < 3; kind++) {
                due("as(" + m + ", " + kind + ")", x.as(m, kind), kind <= m ? 1 : CAST);
                due("its fault", x.fault(), kind <= m ? 0 : 2);
            }
        }
        for (int wrongOne : WRONG) {
            due("UNKNOWN", x.as(wrongOne, 9), U);
            due("OUTSIDE", x.as(0, wrongOne), O);
        }
        due("UNKNOWN", x.as(3, 3), U);
        due("OUTSIDE", x.as(0, 3), O);
    }

    private static void trace() {
        LampWall x = walled("w3;p1;h1;b1");
        due("at first", x.trace(), 0);
        int want = 0;
        int[][] bodies = {{1}, {2, 1}, {3, 2, 1, 1}};
        for (int round = 0; round < 4; round++) {
            for (int m = 0; m < 3; m++) {
                x.tell(m);
                for (int body : bodies[m]) {
                    want = 31 * want + body;
                }
                due("behind tell", x.trace(), want);
                x.switchOn(m);
                want = 31 * want + (m == 2 ? 5 : 4);
                due("behind switchOn", x.trace(), want);
            }
        }
        x.tell(3);
        x.switchOn(-1);
        due("refusals leave nothing", x.trace(), want);
        LampWall other = walled("w3;b1");
        other.tell(0);
        due("3, 2, 1, 1", other.trace(), 91327);
    }

    private static void faultIs(LampWall x, long call, int want) {
        due("fault behind " + call, x.fault(), want);
        due("fault again", x.fault(), want);
    }

    private static void fault() {
        LampWall x = new LampWall();
        due("ahead of any", x.fault(), 0);
        faultIs(x, x.sheet(0, 0, -1), 4);
        faultIs(x, x.sheet(4, 0, -1), 0);
        faultIs(x, x.put(0, 0, 0), 1);
        faultIs(x, x.lose(4), 1);
        faultIs(x, x.many(9), 1);
        faultIs(x, x.put(-1, 0, 0), 0);
        faultIs(x, x.wall(0, 0, 0, 0), 1);
        faultIs(x, x.send(0, 0, 0, 0), 0);
        faultIs(x, x.wall(0, 0, 0, 0), 1);
        faultIs(x, x.day(0, 0, 0, 0, 0), 0);
        faultIs(x, x.copy(0, 0, 0, 0, 0), 1);
        faultIs(x, take(x, "w"), 0);
        faultIs(x, x.wall(3, 1, 0, 0), 2);
        faultIs(x, x.wall(3, 0, 0, -1), 4);
        faultIs(x, x.wall(3, 0, 0, 2), 3);
        faultIs(x, x.wall(3, 0, 0, 1), 0);
        take(x, "w3;p1");
        faultIs(x, x.as(0, 1), 2);
        faultIs(x, x.tell(0), 2);
        faultIs(x, x.level(0, 10), 2);
        faultIs(x, x.as(0, 0), 0);
        faultIs(x, x.send(0, 0, 0, 0), 1);
        faultIs(x, x.send(3, 0, 0, 1), 0);
        faultIs(x, x.day(3, 1, 0, 0, 0), 2);
        faultIs(x, x.day(3, 0, 0, 1, 0), 0);
        faultIs(x, x.cell(3, 5, 0), 3);
        faultIs(x, x.cell(3, 4, 0), 0);
        faultIs(x, x.copy(3, 0, 3, 0, -1), 3);
        faultIs(x, x.copy(3, 0, 3, 0, 1), 0);
    }

    private static void many() {
        LampWall x = walled("w6;p53;h9;b60");
        x.die(0);
        x.reading(0, 0, 0);
        int[] want = {3, 5, 1, 4 + 9, 1, 6};
        for (int what = 0; what < 6; what++) {
            due("many(" + what + ")", x.many(what), want[what]);
        }
        due("OUTSIDE", x.many(6), O);
        for (int wrongOne : WRONG) {
            due("OUTSIDE", x.many(wrongOne), O);
        }
    }
}
