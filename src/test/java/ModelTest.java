import java.util.ArrayList;
import java.util.List;
import java.util.Random;

/** Runs of drawn calls (always the same ones), each answered by LampWall and by the model. */
public final class ModelTest {
    private static final int RUNS = 2000;
    private static final int SHOWN_MOST = 20;

    private final Random draw;
    private final Real real = new Real();
    private final Model model = new Model();
    private final List<String> done = new ArrayList<>();
    private boolean wrong = false;

    private ModelTest(long seed) {
        draw = new Random(seed);
    }

    public static void main(String[] args) {
        long calls = 0;
        int shown = 0;
        for (int seed = 0; seed < RUNS && shown < SHOWN_MOST; seed++) {
            ModelTest run = new ModelTest(seed);
            run.go();
            calls += run.done.size();
            if (run.wrong) {
                shown++;
                System.out.println("run " + seed + ": " + String.join("; ", run.lastCalls()));
            }
        }
        System.out.println(calls + " drawn calls, " + shown + " runs not as the model answers");
        if (shown != 0) {
            System.exit(1);
        }
    }

    private List<String> lastCalls() {
        return done.subList(Math.max(0, done.size() - 60), done.size());
    }

    private void go() {
        while (!wrong && done.size() < Calls.CALLS_MOST) {
            int pick = draw.nextInt(40);
            if (pick == 0 || done.isEmpty() && draw.nextInt(4) != 0) {
                tellWall();
            } else if (pick == 1) {
                tellDay();
            } else if (pick == 2) {
                tellData();
            } else {
                call(Calls.NAMES.get(draw.nextInt(Calls.NAMES.size())), drawArguments());
            }
        }
    }

    private void call(String name, int... a) {
        if (wrong || done.size() >= Calls.CALLS_MOST) {
            return;
        }
        long want = model.call(name, a);
        long got;
        try {
            got = real.call(name, a);
        } catch (RuntimeException thrown) {
            done.add(Calls.told(name, a) + " threw " + thrown);
            wrong = true;
            return;
        }
        done.add(Calls.told(name, a) + " = " + got);
        if (got != want) {
            done.add("due is " + want);
            wrong = true;
        }
    }

    // ---- what is drawn

    private int[] drawArguments() {
        int[] a = new int[5];
        int most = draw.nextBoolean() ? 5 : 20;
        for (int k = 0; k < a.length; k++) {
            a[k] = drawNumber(most);
        }
        return a;
    }

    private int drawNumber(int most) {
        switch (draw.nextInt(40)) {
            case 0: return -1 - draw.nextInt(2);
            case 1: return draw.nextInt();
            case 2: return draw.nextBoolean() ? Integer.MAX_VALUE : Integer.MIN_VALUE;
            case 3: return draw.nextInt(70);
            default: return draw.nextInt(most);
        }
    }

    private void fill(int k, int lane, int... cells) {
        call("sheet", k, lane, cells.length);
        for (int i = 0; i < cells.length; i++) {
            call("put", k, i, cells[i]);
        }
    }

    private void tellWall() {
        StringBuilder text = new StringBuilder("w").append(1 + draw.nextInt(8));
        for (int m = 1 + draw.nextInt(4); m > 0; m--) {
            text.append(';').append("phb".charAt(draw.nextInt(3)));
            for (int l = 1 + draw.nextInt(4); l > 0; l--) {
                text.append(draw.nextInt(10));
            }
        }
        int faults = Math.max(0, draw.nextInt(6) - 3);
        for (int f = 0; f < faults; f++) {
            int place = draw.nextInt(text.length());
            char code = "wphb;0123456789/:x".charAt(draw.nextInt(18));
            if (draw.nextBoolean()) {
                text.setCharAt(place, code);
            } else {
                text.insert(place, code);
            }
        }
        int k = draw.nextInt(4);
        int lane = draw.nextInt(3);
        fill(k, lane, text.chars().toArray());
        int less = draw.nextInt(4) == 0 ? draw.nextInt(text.length() + 1) : 0;
        call("wall", k, lane, 0, text.length() - less);
    }

    private void tellDay() {
        int pairs = draw.nextInt(8);
        int[] cells = new int[2 * pairs];
        for (int p = 0; p < pairs; p++) {
            int act = draw.nextInt(60) == 0 ? drawNumber(40)
                : draw.nextInt(3) != 0 ? draw.nextInt(draw.nextInt(4) == 0 ? 16 : 4)
                : draw.nextBoolean() ? 20 : 30 + draw.nextInt(draw.nextInt(4) == 0 ? 4 : 1);
            cells[2 * p] = act >= 30 ? 0 : act == 20 ? 1 + draw.nextInt(8) : draw.nextInt(10);
            cells[2 * p + 1] = act;
            if (draw.nextInt(80) == 0) {
                cells[2 * p] = drawNumber(12);
            }
        }
        int k = draw.nextInt(4);
        int lane = draw.nextInt(3);
        fill(k, lane, cells);
        for (int what = 0; what < 27; what++) {
            call("day", k, lane, 0, pairs, what);
        }
    }

    private void tellData() {
        int[] cells = new int[draw.nextInt(20)];
        for (int i = 0; i < cells.length; i++) {
            cells[i] = draw.nextInt(150) == 0 ? drawNumber(12) : draw.nextInt(10);
        }
        int k = draw.nextInt(4);
        int lane = draw.nextInt(3);
        fill(k, lane, cells);
        call("send", k, lane, 0, cells.length);
        for (int l = 0; l < 16; l++) {
            call("ofLamp", l, 1);
        }
    }
}
