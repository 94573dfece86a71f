/** All that can be asked of an object, as one text: two objects that are alike in all answer alike. */
final class Whole {
    private static final long LOST = Long.MIN_VALUE;

    private final Calls x;
    private final StringBuilder text = new StringBuilder();

    private Whole(Calls x) {
        this.x = x;
    }

    /** Takes READINGS back and changes fault(), so it comes last of all that is done with an object. */
    static String of(Calls x) {
        Whole whole = new Whole(x);
        whole.ask("trace");
        whole.askWall();
        for (int k = 0; k < 4; k++) {
            whole.askSheet(k);
        }
        whole.askReadings();
        return whole.text.toString();
    }

    private long ask(String name, int... a) {
        long answer = x.call(name, a);
        text.append(Calls.told(name, a)).append(" = ").append(answer).append('\n');
        return answer;
    }

    private void askEach(String name, int k, int... whats) {
        for (int what : whats) {
            ask(name, k, what);
        }
    }

    private void askWall() {
        long modules = ask("many", 0);
        long lamps = ask("many", 1);
        for (int what = 2; what <= 5; what++) {
            ask("many", what);
        }
        for (int m = 0; m < modules; m++) {
            askEach("ofModule", m, 0, 1, 2, 3, 4);
            ask("kinds", m);
        }
        for (int l = 0; l < lamps; l++) {
            askEach("ofLamp", l, 0, 1, 2, 5);
            ask("levels", l);
        }
        for (int t = 0; t < 15 && modules > 0; t++) {
            askEach("ofUnit", t, 0, 3);
        }
    }

    private void askSheet(int k) {
        for (int lane = 0; lane < 3; lane++) {
            boolean goesOn = true;
            for (int i = 0; i <= 60 && goesOn; i++) {
                goesOn = ask("cell", k, i, lane) != LOST;
            }
            ask("fault");
        }
    }

    private void askReadings() {
        for (int left = (int) x.call("many", 4); left > 0; left--) {
            ask("cuts");
            ask("levels", 0);
            ask("back", 1);
        }
        ask("cuts");
    }
}
