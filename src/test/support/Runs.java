import java.util.ArrayList;
import java.util.Arrays;
import java.util.List;

/**
 * Runs of calls on new objects, told as rows of text:
 *
 * <pre>
 *   level 0 7               the call is made
 *   level 0 7 = 5           it answers 5
 *   level 0 10 == OUTSIDE   it answers so and changes nothing: all that can be asked of the object stays as it was,
 *                           and fault() tells what is due, whatever it told ahead of the call
 *   ofUnit {0..14} 0 = 3 .. each number of the braces in turn (of several braces, the last one goes first), with one
 *                           answer for all or one for each
 *   TEXT w3;p53             SHEET 3 gets this TEXT, as bytes, and it is taken: as many MODULES as it has ;
 *   TEXT w3;q == -103       or it answers this
 *   ROW 0 2 5 -6 7*3        SHEET 0 gets a row of LANE 2 with these numbers: 5, -6, 7, 7, 7
 * </pre>
 *
 * Numbers: MIN, MAX, FAR in braces (far off, and such as are 0 if cut to a byte or a short); answers also by the
 * names of the document's numbers and FAULTS, LOST-NULL (LOST, and fault() tells NULL), [0,3..5] as a set.
 */
final class Runs {
    private static final String[] FAULT_NAMES = {"", "NULL", "CAST", "INDEX", "SIZE"};
    private static final int[] FAR = {Integer.MIN_VALUE, -65536, -256, 256, 65536, Integer.MAX_VALUE};
    private static final int SHOWN_MOST = 40;
    private static final int BEHIND_MOST = 12;
    /** For each of two fault() that may be ahead of it: calls that leave and tell this, the call itself, fault(). */
    private static final int CALLS_OF_A_CHECK = 8;

    private final List<Step> done = new ArrayList<>();
    private String title = "";
    private Real real = new Real();
    private String whole = null;
    private int callsOfWhole = 0;
    private int runs = 0;
    private int checks = 0;
    private int wrong = 0;

    private static final class Step {
        final String name;
        final int[] a;

        Step(String name, int... a) {
            if (a.length != Calls.parametersOf(name)) {
                throw new IllegalArgumentException(name + " with " + Arrays.toString(a));
            }
            this.name = name;
            this.a = a;
        }

        long on(Calls x) {
            return x.call(name, a);
        }

        @Override
        public String toString() {
            return Calls.told(name, a);
        }
    }

    static String[] with(String[] ahead, String... rows) {
        String[] all = Arrays.copyOf(ahead, ahead.length + rows.length);
        System.arraycopy(rows, 0, all, ahead.length, rows.length);
        return all;
    }

    void run(String newTitle, String... rows) {
        begin(newTitle);
        for (String row : rows) {
            tell(row);
        }
    }

    void begin(String newTitle) {
        title = newTitle;
        real = new Real();
        done.clear();
        whole = null;
        runs++;
    }

    void tell(String row) {
        boolean stays = row.contains(" == ");
        String[] sides = row.split(stays ? " == " : " = ");
        String[] wants = sides.length < 2 ? new String[0] : sides[1].trim().split(" +");
        String told = sides[0].trim();
        if (told.startsWith("TEXT ") || told.equals("TEXT")) {
            tellText(told.substring(4).trim(), stays, wants);
        } else if (told.startsWith("ROW ")) {
            tellRow(told.substring(4).trim());
        } else {
            make(stepsOf(told), stays, wants);
        }
    }

    void end() {
        System.out.println(runs + " runs, " + checks + " answers looked at, " + wrong + " wrong");
        if (wrong != 0) {
            System.exit(1);
        }
    }

    // ---- what a row tells

    private void tellText(String text, boolean stays, String[] wants) {
        fill(3, 0, text.chars().toArray());
        String modules = String.valueOf(text.chars().filter(c -> c == ';').count());
        Step taken = new Step("wall", 3, 0, 0, text.length());
        make(List.of(taken), stays, wants.length == 0 ? new String[] {modules} : wants);
    }

    private void tellRow(String told) {
        String[] parts = told.split(" +");
        List<Integer> cells = new ArrayList<>();
        for (String part : Arrays.copyOfRange(parts, 2, parts.length)) {
            String[] times = part.split("\\*");
            for (int k = times.length == 1 ? 1 : Integer.parseInt(times[1]); k > 0; k--) {
                cells.add(number(times[0]));
            }
        }
        fill(number(parts[0]), number(parts[1]), cells.stream().mapToInt(Integer::intValue).toArray());
    }

    void fill(int k, int lane, int... cells) {
        answers(new Step("sheet", k, lane, cells.length), "1");
        for (int i = 0; i < cells.length; i++) {
            answers(new Step("put", k, i, cells[i]), "1");
        }
    }

    private static List<Step> stepsOf(String told) {
        List<String> parts = partsOf(told);
        List<List<Integer>> rows = new ArrayList<>();
        rows.add(List.of());
        for (String part : parts.subList(1, parts.size())) {
            List<List<Integer>> longer = new ArrayList<>();
            for (List<Integer> row : rows) {
                for (int v : numbers(part)) {
                    List<Integer> next = new ArrayList<>(row);
                    next.add(v);
                    longer.add(next);
                }
            }
            rows = longer;
        }
        List<Step> steps = new ArrayList<>();
        for (List<Integer> row : rows) {
            steps.add(new Step(parts.get(0), row.stream().mapToInt(Integer::intValue).toArray()));
        }
        return steps;
    }

    /** Cut at blanks that are not in braces. */
    private static List<String> partsOf(String told) {
        List<String> parts = new ArrayList<>();
        StringBuilder part = new StringBuilder();
        boolean inBraces = false;
        for (char c : (told + " ").toCharArray()) {
            inBraces = c == '{' || inBraces && c != '}';
            if (c == ' ' && !inBraces) {
                if (part.length() > 0) {
                    parts.add(part.toString());
                }
                part.setLength(0);
            } else {
                part.append(c);
            }
        }
        return parts;
    }

    private static List<Integer> numbers(String part) {
        List<Integer> all = new ArrayList<>();
        String inside = part.startsWith("{") ? part.substring(1, part.length() - 1).trim() : part;
        for (String one : inside.split("[ ,]+")) {
            int dots = one.indexOf("..");
            if (one.equals("FAR")) {
                Arrays.stream(FAR).forEach(all::add);
            } else if (dots > 0) {
                for (int v = number(one.substring(0, dots)); v <= number(one.substring(dots + 2)); v++) {
                    all.add(v);
                }
            } else {
                all.add(number(one));
            }
        }
        return all;
    }

    private static int number(String one) {
        return one.equals("MIN") ? Integer.MIN_VALUE : one.equals("MAX") ? Integer.MAX_VALUE : Integer.parseInt(one);
    }

    private static long due(String want) {
        if (want.startsWith("LOST")) {
            return Long.MIN_VALUE;
        }
        if (want.startsWith("[")) {
            return want.equals("[]") ? 0 : numbers("{" + want.substring(1, want.length() - 1) + "}").stream()
                .mapToLong(k -> 1L << k).sum();
        }
        switch (want) {
            case "UNKNOWN": return -1;
            case "OUTSIDE": return -2;
            case "STATE": return -3;
            case "FULL": return -4;
            case "NONE": return -9;
            default: return faultIn(want) != 0 ? -10 - faultIn(want) : Long.parseLong(want);
        }
    }

    private static int faultIn(String want) {
        String name = want.replace("LOST-", "");
        return Math.max(0, Arrays.asList(FAULT_NAMES).indexOf(name));
    }

    // ---- the calls

    private void make(List<Step> steps, boolean stays, String[] wants) {
        if (wants.length > 1 && wants.length != steps.size()) {
            throw new IllegalArgumentException(title + ": " + steps.size() + " calls, " + wants.length + " answers");
        }
        if (stays) {
            allStays(steps, wants);
            return;
        }
        for (int k = 0; k < steps.size(); k++) {
            answers(steps.get(k), wants.length == 0 ? null : wants[wants.length == 1 ? 0 : k]);
        }
    }

    private void answers(Step step, String want) {
        done.add(step);
        whole = null;
        long got = step.on(real);
        if (want != null) {
            look(step.toString(), got, due(want));
        }
    }

    private void look(String what, long got, long want) {
        checks++;
        if (got != want) {
            report(what + " answered " + got + ", due is " + want);
        }
    }

    private void report(String what) {
        wrong++;
        if (wrong <= SHOWN_MOST) {
            List<Step> last = done.subList(Math.max(0, done.size() - BEHIND_MOST), done.size());
            System.out.println(title + ": " + what + "; behind " + done.size() + " calls, the last " + last);
        }
    }

    /** On objects of their own, so that a change is seen there and does not come into the run. */
    private void allStays(List<Step> steps, String[] wants) {
        if (whole == null) {
            Real untouched = again();
            whole = Whole.of(untouched);
            callsOfWhole = untouched.made();
        }
        int most = (Calls.CALLS_MOST - callsOfWhole) / CALLS_OF_A_CHECK;
        if (most < 1) {
            throw new IllegalArgumentException(title + ": the run is too long");
        }
        for (int from = 0; from < steps.size(); from += most) {
            int to = Math.min(steps.size(), from + most);
            Real touched = again();
            for (int k = from; k < to; k++) {
                checkOnce(touched, steps.get(k), wants[wants.length == 1 ? 0 : k]);
            }
            checks++;
            String now = Whole.of(touched);
            if (!now.equals(whole)) {
                report(steps.subList(from, to) + " changed " + firstUnlike(now));
            }
        }
    }

    private Real again() {
        Real other = new Real();
        for (Step step : done) {
            step.on(other);
        }
        return other;
    }

    private void checkOnce(Real x, Step step, String want) {
        for (boolean faulted : new boolean[] {true, false}) {
            // No row has a cell 60, there is no SHEET -1: a FAULT, and a refusal that leaves none.
            x.call("cell", faulted ? 0 : -1, 60, 0);
            int ahead = (int) x.call("fault");
            if (faulted != (ahead != 0)) {
                report("fault() told " + ahead + " ahead of " + step);
            }
            look(step.toString(), step.on(x), due(want));
            boolean names = Calls.FAULTING.contains(step.name);
            look("fault() behind " + step, x.call("fault"), names ? faultIn(want) : ahead);
        }
    }

    private String firstUnlike(String now) {
        String[] lines = now.split("\n");
        String[] due = whole.split("\n");
        for (int k = 0; k < Math.min(lines.length, due.length); k++) {
            if (!lines[k].equals(due[k])) {
                return lines[k] + ", due is " + due[k];
            }
        }
        return "how much there is";
    }
}
