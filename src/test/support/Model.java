import java.math.BigInteger;
import java.util.ArrayDeque;
import java.util.ArrayList;
import java.util.Deque;
import java.util.List;

/**
 * A second model of the document, written in another way than the class: its rows are the machine's own arrays, its
 * FAULTS what the machine throws, its kinds classes of one another.
 */
final class Model implements Calls {
    private static final int U = -1, O = -2, S = -3, F = -4, NONE = -9;

    final Object[] sheets = new Object[4];
    final List<int[]> readings = new ArrayList<>();
    State state = new State();
    int trace = 0;
    int fault = 0;

    void leave(int number) {
        trace = trace * 31 + number;
    }

    @Override
    public long call(String name, int... a) {
        int found = 0;
        long answer;
        try {
            answer = answerOrThrow(name, a);
        } catch (Answer early) {
            answer = early.number;
        } catch (NullPointerException e) {
            found = 1;
            answer = -11;
        } catch (ClassCastException e) {
            found = 2;
            answer = -12;
        } catch (IndexOutOfBoundsException e) {
            found = 3;
            answer = -13;
        } catch (NegativeArraySizeException e) {
            found = 4;
            answer = -14;
        }
        if (FAULTING.contains(name)) {
            fault = found;
        }
        boolean isLong = name.equals("cell") || name.equals("odds");
        return isLong && (found != 0 || early(name, a)) ? Long.MIN_VALUE : answer;
    }

    /** Whether a call that answers a long is refused; its own numbers may be below 0, too. */
    private boolean early(String name, int[] a) {
        try {
            answerOrThrow(name, a);
            return false;
        } catch (Answer refusal) {
            return true;
        }
    }

    private long answerOrThrow(String name, int[] a) {
        switch (name) {
            case "wall": return wall(a[0], a[1], a[2], a[3]);
            case "ofModule": return ofModule(a[0], a[1]);
            case "ofLamp": return ofLamp(a[0], a[1]);
            case "level": return level(a[0], a[1]);
            case "die": return die(a[0]);
            case "cut": return cut(a[0]);
            case "ofUnit": return ofUnit(a[0], a[1]);
            case "slices": return slices(a[0]);
            case "bears": return bears(a[0]);
            case "steadiest": return steadiest(a[0]);
            case "send": return send(a[0], a[1], a[2], a[3]);
            case "day": return day(a[0], a[1], a[2], a[3], a[4]);
            case "reading": return reading(a[0], a[1], a[2]);
            case "back": return back(a[0]);
            case "kinds": return kinds(a[0]);
            case "levels": return levels(a[0]);
            case "cuts": return cuts();
            case "odds": return odds(a[0], a[1], a[2]);
            case "sheet": return sheet(a[0], a[1], a[2]);
            case "lose": return lose(a[0]);
            case "put": return put(a[0], a[1], a[2]);
            case "cell": return cell(a[0], a[1], a[2]);
            case "copy": return copy(a[0], a[1], a[2], a[3], a[4]);
            case "tell": return module(a[0]).told(this);
            case "switchOn": return module(a[0]).switched(this);
            case "as": return as(a[0], a[1]);
            case "trace": return trace;
            case "fault": return fault;
            default: return many(a[0]);
        }
    }

    private static boolean in(int v, int least, int most) {
        return least <= v && v <= most;
    }

    private Plain module(int m) {
        refuse(!in(m, 0, state.modules.size() - 1), U);
        return state.modules.get(m);
    }

    private void lamp(int l) {
        refuse(!in(l, 0, state.lamps() - 1), U);
    }

    private void standing() {
        refuse(state.modules.isEmpty(), S);
    }

    private int[] cells(int k, int lane, int i, int n) {
        Object row = sheets[k];
        byte[] bytes = lane == 0 ? (byte[]) row : null;
        short[] shorts = lane == 1 ? (short[]) row : null;
        int[] ints = lane == 2 ? (int[]) row : null;
        int length = lane == 0 ? bytes.length : lane == 1 ? shorts.length : ints.length;
        int[] taken = new int[n < 0 ? -1 : Math.min(n, 99)];
        if (!in(i, 0, length) || (long) i + n > length) {
            throw new IndexOutOfBoundsException();
        }
        for (int j = 0; j < n; j++) {
            taken[j] = lane == 0 ? bytes[i + j] : lane == 1 ? shorts[i + j] : ints[i + j];
        }
        return taken;
    }

    private int wall(int k, int lane, int i, int n) {
        refuse(!in(k, 0, 3), U);
        refuse(!in(lane, 0, 2), O);
        int[] codes = cells(k, lane, i, n);
        StringBuilder text = new StringBuilder();
        for (int code : codes) {
            text.append(in(code, 1, 126) ? (char) code : '?');
            // A TEXT is wrong from the first place on from which it is the beginning of none.
            refuse(!beginsSome(text.toString()), -100 - (text.length() - 1));
        }
        refuse(!text.toString().matches("w[1-8](;[phb][0-9]{1,4}){1,4}"), -100 - text.length());
        state = new State();
        readings.clear();
        state.cut = text.charAt(1) - '0';
        for (String part : text.substring(3).split(";")) {
            Plain m = Plain.of("phb".indexOf(part.charAt(0)));
            part.substring(1).chars().forEach(c -> m.levels.add(c - '0'));
            state.modules.add(m);
        }
        return state.modules.size();
    }

    private static boolean beginsSome(String text) {
        return text.matches("w?") || text.matches("w[1-8](;[phb][0-9]{1,4}){0,4}")
            || text.matches("w[1-8](;[phb][0-9]{1,4}){0,3};[phb]?");
    }

    private int ofModule(int m, int what) {
        Plain module = module(m);
        refuse(!in(what, 0, 4), O);
        int first = 0;
        int place = 0;
        for (Plain ahead : state.modules.subList(0, m)) {
            first += ahead.levels.size();
            place += ahead.dead ? 0 : 1;
        }
        return new int[] {module.kind(), module.levels.size(), first, module.dead ? 1 : 0,
            module.dead ? NONE : place}[what];
    }

    private int ofLamp(int l, int what) {
        lamp(l);
        refuse(!in(what, 0, 6), O);
        int lit = 0;
        int ghosts = 0;
        for (int t = 14; t >= 0; t--) {
            lit = 2 * lit + (state.shine(l).charAt(t) - '0');
            ghosts = 2 * ghosts + (state.ghosts(l, t) ? 1 : 0);
        }
        return new int[] {state.find(l)[0], state.level(l), state.light(l), state.dark(l), state.turns(l),
            lit, ghosts}[what];
    }

    private int level(int l, int v) {
        lamp(l);
        refuse(!in(v, 0, 9), O);
        int was = state.level(l);
        state.level(l, v);
        return was;
    }

    private int die(int m) {
        Plain module = module(m);
        module.dead ^= true;
        return module.dead ? 1 : 0;
    }

    private int cut(int v) {
        refuse(!in(v, 1, 8), O);
        standing();
        int was = state.cut;
        state.cut = v;
        return was;
    }

    private int ofUnit(int t, int what) {
        refuse(!in(t, 0, 14) || !in(what, 0, 4), O);
        standing();
        int lit = 0;
        int ghosts = 0;
        for (int l = state.lamps() - 1; l >= 0; l--) {
            lit = 2 * lit + (state.shine(l).charAt(t) - '0');
            ghosts += state.ghosts(l, t) ? 1 : 0;
        }
        int[] unit = state.frame().get(t);
        return new int[] {unit[0], Integer.bitCount(lit), lit, unit[1], ghosts}[what];
    }

    private int slices(int plane) {
        refuse(!in(plane, -1, 3), O);
        standing();
        int all = 0;
        for (int p = 0; p < 4; p++) {
            all += p == plane || plane == -1 ? (int) Math.ceil(Math.pow(2, p) / state.cut) : 0;
        }
        return all;
    }

    private int bears(int budget) {
        refuse(!in(budget, 0, 16), O);
        standing();
        int best = 0;
        for (int g = 0; g <= 15; g++) {
            best = state.greatestCurrent(g) <= budget ? g : best;
        }
        return best;
    }

    private int steadiest(int what) {
        refuse(!in(what, 0, 2), O);
        standing();
        State other = state.copied();
        int best = 8;
        int least = 1000;
        for (other.cut = 8; other.cut >= 1; other.cut--) {
            if (other.darkTogether() <= least) {
                least = other.darkTogether();
                best = other.cut;
            }
        }
        return what == 0 ? best : what == 1 ? least : state.darkTogether();
    }

    private int send(int k, int lane, int i, int n) {
        refuse(!in(k, 0, 3), U);
        refuse(!in(lane, 0, 2) || !in(n, 0, 20), O);
        standing();
        Deque<Integer> data = new ArrayDeque<>();
        for (int v : cells(k, lane, i, n)) {
            data.add(v);
        }
        refuse(!data.stream().allMatch(v -> in(v, 0, 9)), O);
        for (Plain m : state.modules) {
            if (!m.dead && data.size() < m.levels.size()) {
                break;
            }
            for (int l = 0; !m.dead && l < m.levels.size(); l++) {
                m.levels.set(l, data.remove());
            }
        }
        return data.size();
    }

    private int day(int k, int lane, int i, int n, int what) {
        refuse(!in(k, 0, 3), U);
        refuse(!in(lane, 0, 2) || !in(n, 0, 20) || !in(what, 0, 4) && !in(what, 10, 25), O);
        standing();
        int[] told = cells(k, lane, i, 2 * n);
        State then = state.copied();
        int wrong = NONE;
        for (int p = n - 1; p >= 0; p--) {
            int v = told[2 * p];
            int act = told[2 * p + 1];
            boolean isLevel = in(act, 0, 15) && in(v, 0, 9);
            boolean isDeath = in(act, 30, 33) && v == 0;
            refuse(!isLevel && !isDeath && !(act == 20 && in(v, 1, 8)), O);
            if (isLevel && act >= then.lamps() || isDeath && act - 30 >= then.modules.size()) {
                wrong = p;
            }
        }
        for (int p = 0; wrong == NONE && p < n; p++) {
            int act = told[2 * p + 1];
            if (act == 20) {
                then.cut = told[2 * p];
            } else if (act < 20) {
                then.level(act, told[2 * p]);
            } else {
                then.modules.get(act - 30).dead ^= true;
            }
        }
        refuse(what == 1, wrong);
        refuse(wrong != NONE, -100 - wrong);
        return endOfDay(then, what);
    }

    private static int endOfDay(State then, int what) {
        int ghosts = 0;
        for (int l = 0; what == 4 && l < then.lamps(); l++) {
            for (int t = 0; t < 15; t++) {
                ghosts += then.ghosts(l, t) ? 1 : 0;
            }
        }
        switch (what) {
            case 0: return then.lightTogether();
            case 2: return then.greatestCurrent(15);
            case 3: return then.darkTogether();
            case 4: return ghosts;
            default: return what - 10 < then.lamps() ? then.level(what - 10) : NONE;
        }
    }

    private int reading(int t, int l, int lit) {
        lamp(l);
        refuse(!in(t, 0, 14) || !in(lit, 0, 1), O);
        refuse(readings.size() == 8, F);
        readings.add(new int[] {t, l, lit});
        return readings.size() - 1;
    }

    private int back(int n) {
        refuse(!in(n, 0, readings.size()), O);
        for (int k = 0; k < n; k++) {
            readings.remove(readings.size() - 1);
        }
        return readings.size();
    }

    private boolean fits(State other) {
        return readings.stream().allMatch(r -> other.lit(other.light(r[1]), r[0]) == (r[2] == 1));
    }

    private int kinds(int m) {
        Plain module = module(m);
        int set = 0;
        for (int kind = 0; kind < 3; kind++) {
            State other = state.copied();
            other.modules.set(m, module.as(kind));
            set += fits(other) ? 1 << kind : 0;
        }
        return set;
    }

    private int levels(int l) {
        lamp(l);
        int set = 0;
        for (int v = 0; v < 10; v++) {
            State other = state.copied();
            other.level(l, v);
            set += fits(other) ? 1 << v : 0;
        }
        return set;
    }

    private int cuts() {
        standing();
        int set = 0;
        for (int c = 1; c <= 8; c++) {
            State other = state.copied();
            other.cut = c;
            set += fits(other) ? 1 << c : 0;
        }
        return set;
    }

    private long odds(int t, int n, int which) {
        refuse(!in(t, 0, 14) || !in(n, 0, 16) || !in(which, 0, 1), O);
        standing();
        List<Plain> lamps = new ArrayList<>();
        for (Plain m : state.modules) {
            m.levels.forEach(v -> lamps.add(m));
        }
        lamps.removeIf(m -> m.dead);
        BigInteger upper = rowsWith(lamps, t, n);
        BigInteger lower = BigInteger.TEN.pow(lamps.size());
        BigInteger common = upper.gcd(lower);
        return (which == 0 ? upper : lower).divide(common).longValueExact();
    }

    /** By how many rows at least n of these LAMPS are LIT. */
    private BigInteger rowsWith(List<Plain> lamps, int t, int n) {
        if (n > lamps.size()) {
            return BigInteger.ZERO;
        }
        if (n <= 0) {
            return BigInteger.TEN.pow(lamps.size());
        }
        Plain one = lamps.get(0);
        List<Plain> rest = lamps.subList(1, lamps.size());
        int lit = 0;
        for (int v = 0; v < 10; v++) {
            lit += state.lit(one.light(v), t) ? 1 : 0;
        }
        return rowsWith(rest, t, n - 1).multiply(BigInteger.valueOf(lit))
            .add(rowsWith(rest, t, n).multiply(BigInteger.valueOf(10 - lit)));
    }

    private int sheet(int k, int lane, int n) {
        refuse(!in(k, 0, 3), U);
        refuse(!in(lane, 0, 2) || n > 60, O);
        sheets[k] = lane == 0 ? new byte[n] : lane == 1 ? new short[n] : new int[n];
        return 1;
    }

    private int lose(int k) {
        refuse(!in(k, 0, 3), U);
        int had = sheets[k] == null ? 0 : 1;
        sheets[k] = null;
        return had;
    }

    private int put(int k, int i, int v) {
        refuse(!in(k, 0, 3), U);
        if (sheets[k] instanceof byte[] bytes) {
            bytes[i] = (byte) v;
        } else if (sheets[k] instanceof short[] shorts) {
            shorts[i] = (short) v;
        } else {
            ((int[]) sheets[k])[i] = v;
        }
        return 1;
    }

    private long cell(int k, int i, int lane) {
        refuse(!in(k, 0, 3), U);
        refuse(!in(lane, 0, 2), O);
        return lane == 0 ? ((byte[]) sheets[k])[i] : lane == 1 ? ((short[]) sheets[k])[i] : ((int[]) sheets[k])[i];
    }

    private int copy(int k, int i, int other, int j, int n) {
        refuse(!in(k, 0, 3) || !in(other, 0, 3), U);
        Object from = sheets[k];
        Object to = sheets[other];
        if (from.getClass() != to.getClass()) {
            throw new ClassCastException();
        }
        System.arraycopy(from, i, to, j, n);
        return n;
    }

    private int as(int m, int kind) {
        Plain module = module(m);
        refuse(!in(kind, 0, 2), O);
        Object taken = kind == 0 ? module : kind == 1 ? (Halved) module : (Bright) module;
        return taken == null ? 0 : 1;
    }

    private int many(int what) {
        refuse(!in(what, 0, 5), O);
        return new int[] {state.modules.size(), state.lamps(), (int) state.modules.stream().filter(m -> m.dead).count(),
            state.lightTogether(), readings.size(), state.cut}[what];
    }

    // ---- what it is made of

    private static class Plain {
        final List<Integer> levels = new ArrayList<>();
        boolean dead = false;

        int kind() {
            return 0;
        }

        int light(int level) {
            return level;
        }

        int told(Model by) {
            return plainTold(by);
        }

        final int plainTold(Model by) {
            by.leave(1);
            return levels.size();
        }

        int switched(Model by) {
            by.leave(4);
            return levels.stream().mapToInt(Integer::intValue).sum();
        }

        static Plain of(int kind) {
            return kind == 0 ? new Plain() : kind == 1 ? new Halved() : new Bright();
        }

        Plain as(int kind) {
            Plain other = of(kind);
            other.levels.addAll(levels);
            other.dead = dead;
            return other;
        }
    }

    private static class Halved extends Plain {
        @Override
        int kind() {
            return 1;
        }

        @Override
        int light(int level) {
            return (level - level % 2) / 2;
        }

        @Override
        int told(Model by) {
            by.leave(2);
            return super.told(by) + 100;
        }
    }

    private static final class Bright extends Halved {
        @Override
        int kind() {
            return 2;
        }

        @Override
        int light(int level) {
            return super.light(level) + new Plain().light(level);
        }

        @Override
        int told(Model by) {
            by.leave(3);
            int halved = super.told(by);
            return halved + plainTold(by);
        }

        @Override
        int switched(Model by) {
            by.leave(5);
            return 60;
        }
    }

    /** A refusal, or another answer that ends a call at once. */
    private static final class Answer extends RuntimeException {
        private static final long serialVersionUID = 1L;
        final int number;

        Answer(int number) {
            this.number = number;
        }
    }

    private static void refuse(boolean when, int why) {
        if (when) {
            throw new Answer(why);
        }
    }

    private static final class State {
        final List<Plain> modules = new ArrayList<>();
        int cut = 0;

        State copied() {
            State other = new State();
            for (Plain m : modules) {
                other.modules.add(m.as(m.kind()));
            }
            other.cut = cut;
            return other;
        }

        int lamps() {
            return modules.stream().mapToInt(m -> m.levels.size()).sum();
        }

        /** {its MODULE, its place in it} */
        int[] find(int l) {
            for (int m = 0; m < modules.size(); m++) {
                if (l < modules.get(m).levels.size()) {
                    return new int[] {m, l};
                }
                l -= modules.get(m).levels.size();
            }
            throw new IllegalStateException();
        }

        int level(int l) {
            int[] at = find(l);
            return modules.get(at[0]).levels.get(at[1]);
        }

        void level(int l, int v) {
            int[] at = find(l);
            modules.get(at[0]).levels.set(at[1], v);
        }

        int light(int l) {
            Plain m = modules.get(find(l)[0]);
            return m.dead ? 0 : m.light(level(l));
        }

        /** {PLANE, SLICE} of each unit */
        List<int[]> frame() {
            List<Deque<Integer>> lengths = new ArrayList<>();
            for (int plane = 3; plane >= 0; plane--) {
                Deque<Integer> slices = new ArrayDeque<>();
                for (int left = (int) Math.pow(2, plane); left > 0; left -= cut) {
                    slices.add(Math.min(left, cut));
                }
                lengths.add(slices);
            }
            List<int[]> units = new ArrayList<>();
            for (int slice = 0; units.size() < 15; slice++) {
                for (int k = 0; k < 4; k++) {
                    Integer length = lengths.get(k).poll();
                    for (int u = 0; length != null && u < length; u++) {
                        units.add(new int[] {3 - k, slice});
                    }
                }
            }
            return units;
        }

        boolean lit(int light, int t) {
            String bits = String.format("%4s", Integer.toBinaryString(light)).replace(' ', '0');
            return bits.charAt(3 - frame().get(t)[0]) == '1';
        }

        String shine(int l) {
            StringBuilder units = new StringBuilder();
            List<int[]> frame = frame();
            int light = light(l);
            String bits = String.format("%4s", Integer.toBinaryString(light)).replace(' ', '0');
            for (int t = 0; t < 15; t++) {
                units.append(bits.charAt(3 - frame.get(t)[0]));
            }
            return units.toString();
        }

        int dark(int l) {
            String twice = shine(l) + shine(l);
            int most = 0;
            for (String stretch : twice.split("1")) {
                most = Math.max(most, stretch.length());
            }
            return Math.min(15, most);
        }

        int darkTogether() {
            int sum = 0;
            for (int l = 0; l < lamps(); l++) {
                sum += dark(l);
            }
            return sum;
        }

        int turns(int l) {
            String s = shine(l);
            int count = 0;
            for (int t = 0; t < 15; t++) {
                count += s.charAt(t) != s.charAt((t + 1) % 15) ? 1 : 0;
            }
            return count;
        }

        boolean ghosts(int l, int t) {
            return find(l)[1] > 0 && shine(l).charAt(t) == '0' && shine(l - 1).charAt(t) == '1';
        }

        int current(int t, int g) {
            int count = 0;
            for (int l = 0; l < lamps(); l++) {
                count += lit((int) Math.floor(light(l) * g / 15.0 + 1e-9), t) ? 1 : 0;
            }
            return count;
        }

        int greatestCurrent(int g) {
            int most = 0;
            for (int t = 0; t < 15; t++) {
                most = Math.max(most, current(t, g));
            }
            return most;
        }

        int lightTogether() {
            int sum = 0;
            for (int l = 0; l < lamps(); l++) {
                sum += light(l);
            }
            return sum;
        }
    }
}
