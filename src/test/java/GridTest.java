import java.util.ArrayList;
import java.util.List;

/**
 * Every call with every row of numbers at the edges of what is told, just inside, just outside and far outside, so
 * that each refusal and FAULT comes alone and together with each later one; in several states, against the model.
 */
public final class GridTest {
    private static final int MIN = Integer.MIN_VALUE, MAX = Integer.MAX_VALUE;
    private static final int SHOWN_MOST = 20, BEHIND_MOST = 20;
    private static final int STATES = 6;
    /** No Whole asks more than this. */
    private static final int CALLS_OF_WHOLE = 350;
    private static final List<String> CHANGING = List.of("wall", "level", "die", "cut", "send", "reading", "back",
        "sheet", "lose", "put", "copy", "tell", "switchOn");

    private static final int[] SHEET = {MIN, -1, 0, 1, 2, 3, 4, MAX};
    private static final int[] LANE = {-1, 0, 1, 2, 3};
    private static final int[] PLACE = {MIN, -1, 0, 1, 2, 20, 21, 40, 59, 60, 61, MAX};
    private static final int[] LENGTH = {MIN, -1, 0, 1, 2, 3, 5, 16, 20, 21, 60, 61, MAX};
    private static final int[] FEW_SHEETS = {-1, 0, 1, 2, 3, 4};
    private static final int[] FEW_PLACES = {MIN, -1, 0, 1, 3, 60, 61, MAX};
    private static final int[] FEW_LENGTHS = {MIN, -1, 0, 1, 20, 21, MAX};
    private static final int[] MODULE = {MIN, -1, 0, 1, 2, 3, 4, MAX};
    private static final int[] LAMP = {MIN, -1, 0, 1, 4, 5, 15, 16, MAX};
    private static final int[] UNIT = {MIN, -1, 0, 3, 8, 14, 15, MAX};
    private static final int[] FEW = {MIN, -1, 0, 1, 2, 3, 4, 5, 6, 7, 8, 9, 10, MAX};
    private static final int[] MANY = {MIN, -1, 0, 1, 6, 15, 16, 17, MAX};
    private static final int[] OF_DAY = {MIN, -1, 0, 1, 2, 3, 4, 5, 9, 10, 14, 15, 25, 26, MAX};

    private final int state;
    private Real real;
    private Model model;
    private final List<String> done = new ArrayList<>();

    private static long calls = 0;
    private static int wrong = 0;

    private GridTest(int state) {
        this.state = state;
    }

    public static void main(String[] args) {
        for (int state = 0; state < STATES; state++) {
            GridTest grid = new GridTest(state);
            for (String name : Calls.NAMES) {
                grid.anew();
                grid.each(name, numbersOf(name), new int[Calls.parametersOf(name)], 0);
                grid.compareWholes();
            }
        }
        System.out.println(calls + " calls at the edges, " + wrong + " not as the model answers");
        if (wrong != 0) {
            System.exit(1);
        }
    }

    private static int[][] numbersOf(String name) {
        switch (name) {
            case "wall": case "send": return new int[][] {SHEET, LANE, PLACE, LENGTH};
            case "day": return new int[][] {FEW_SHEETS, LANE, FEW_PLACES, FEW_LENGTHS, OF_DAY};
            case "copy": return new int[][] {FEW_SHEETS, FEW_PLACES, FEW_SHEETS, FEW_PLACES, FEW_LENGTHS};
            case "sheet": return new int[][] {SHEET, LANE, LENGTH};
            case "put": return new int[][] {SHEET, PLACE, {MIN, -129, 0, 127, 128, 32768, 65536, MAX}};
            case "cell": return new int[][] {SHEET, PLACE, LANE};
            case "lose": return new int[][] {SHEET};
            case "ofModule": case "as": return new int[][] {MODULE, FEW};
            case "die": case "kinds": case "tell": case "switchOn": return new int[][] {MODULE};
            case "ofLamp": case "level": return new int[][] {LAMP, FEW};
            case "levels": return new int[][] {LAMP};
            case "ofUnit": return new int[][] {UNIT, FEW};
            case "reading": return new int[][] {UNIT, LAMP, {MIN, -1, 0, 1, 2, MAX}};
            case "odds": return new int[][] {UNIT, MANY, {MIN, -1, 0, 1, 2, MAX}};
            case "bears": return new int[][] {MANY};
            case "slices": return new int[][] {{MIN, -2, -1, 0, 1, 2, 3, 4, MAX}};
            case "cut": case "steadiest": case "back": case "many": return new int[][] {FEW};
            default: return new int[][] {};
        }
    }

    private void each(String name, int[][] numbers, int[] a, int from) {
        if (from == a.length) {
            once(name, a);
            return;
        }
        for (int v : numbers[from]) {
            a[from] = v;
            each(name, numbers, a, from + 1);
        }
    }

    private void once(String name, int[] a) {
        if (real.made() + 2 + CALLS_OF_WHOLE > Calls.CALLS_MOST) {
            compareWholes();
            anew();
        }
        calls++;
        long answer = compare(name, a);
        compare("fault");
        if (CHANGING.contains(name) && answer >= 0) {
            compareWholes();
            anew();
        }
    }

    private long compare(String name, int... a) {
        long want = model.call(name, a);
        long got = real.call(name, a);
        done.add(Calls.told(name, a));
        if (got != want) {
            report(Calls.told(name, a) + " answered " + got + ", due is " + want);
        }
        return want;
    }

    private void compareWholes() {
        if (!Whole.of(real).equals(Whole.of(model))) {
            report("not all is as due");
        }
    }

    private void report(String what) {
        wrong++;
        if (wrong <= SHOWN_MOST) {
            List<String> last = done.subList(Math.max(0, done.size() - BEHIND_MOST), done.size());
            System.out.println("state " + state + ": " + what + "; behind " + last);
        }
    }

    // ---- the states

    private void anew() {
        real = new Real();
        model = new Model();
        done.clear();
        switch (state) {
            case 0: break;
            case 1: withSheetsAlone(); break;
            case 2: withSmallWall(); break;
            case 3: withFullWall(); break;
            case 4: withWallMadeAnew(); break;
            default: withAllDead(); break;
        }
    }

    private void fill(int k, int lane, int... cells) {
        compare("sheet", k, lane, cells.length);
        for (int i = 0; i < cells.length; i++) {
            compare("put", k, i, cells[i]);
        }
    }

    private void take(int k, int lane, String text) {
        fill(k, lane, text.chars().toArray());
        compare("wall", k, lane, 0, text.length());
    }

    private void withSheetsAlone() {
        fill(0, 0, "w3;p1".chars().toArray());
        fill(2, 2, 5, 0, 0, 30);
        fill(3, 1);
    }

    private void withSmallWall() {
        take(0, 0, "w3;p53;h9;b60");
        compare("die", 1);
        compare("reading", 3, 0, 1);
        compare("reading", 0, 3, 0);
        compare("tell", 2);
        fill(1, 1, 9, 0, 7, 1, 0, 30);
        fill(3, 2, 1, 2, 3, 20, 8, 20);
        compare("as", 0, 1);
    }

    private void withFullWall() {
        take(0, 0, "w8;p1234;h5678;b9012;p3456");
        for (int t = 0; t < 8; t++) {
            compare("reading", t, 2 * t, t % 2);
        }
        compare("switchOn", 2);
        compare("sheet", 1, 2, 60);
        compare("put", 1, 59, 3);
        fill(2, 2, 4, 15, 0, 33);
    }

    /** The WALL ahead of it had more of all, and all that is told of it. */
    private void withWallMadeAnew() {
        take(0, 0, "w8;b9876;h5432;p1098;b7654");
        for (int m = 0; m < 4; m++) {
            compare("die", m);
        }
        for (int t = 0; t < 8; t++) {
            compare("reading", t, 15 - t, 1);
        }
        compare("tell", 0);
        take(0, 0, "w2;h8;p41");
        fill(1, 1, 5, 1, 4, 20, 0, 31);
        compare("wall", 1, 1, 0, 6);
        compare("cell", 1, 0, 2);
    }

    private void withAllDead() {
        take(1, 1, "w5;b37;h6;p915");
        compare("reading", 0, 3, 1);
        for (int m = 0; m < 3; m++) {
            compare("die", m);
        }
        compare("reading", 14, 5, 0);
        fill(0, 0, 7, 5, 0, 32);
        fill(2, 2, 3, 3, 9, 9, 9, 9, 9);
        compare("send", 2, 1, 0, 7);
    }
}
