import java.util.Arrays;

/** A wall of lamps that shine by bits of time. The document DOC.md says, promise by promise, what each call answers. */
public final class LampWall {
    public static final int UNKNOWN = -1, OUTSIDE = -2, STATE = -3, FULL = -4, NONE = -9;
    public static final long LOST = Long.MIN_VALUE;

    private static final int NO_FAULT = 0, NULL = 1, CAST = 2, INDEX = 3, SIZE = 4;
    private static final int PLAIN = 0, HALVED = 1, BRIGHT = 2;
    private static final int KINDS = 3;
    private static final int MODULES_MOST = 4, LAMPS_OF_MODULE_MOST = 4, LAMPS_MOST = 16;
    private static final int LEVEL_MOST = 9, CUT_LEAST = 1, CUT_MOST = 8;
    private static final int UNITS = 15, PLANES = 4, FULL_LIGHT = 15;
    private static final int SHEETS = 4, LANES = 3, CELLS_MOST = 60;
    private static final int BYTES = 0, SHORTS = 1;
    private static final int READINGS_MOST = 8;
    private static final int TOLD_MOST = 20;
    private static final int ACT_CUT = 20, ACT_DIE = 30;
    private static final int WHAT_LEVEL = 10;
    private static final int EUCLID_STEPS_MOST = 1000;

    private final Sheet[] rows = new Sheet[SHEETS];
    private final Wall now = new Wall();
    /** What would be: the calls that ask for it work here, so that the wall itself stays as it is. */
    private final Wall tried = new Wall();
    private final Readings read = new Readings();
    /** ways[k]: by how many rows of LEVELS just k LAMPS are LIT. */
    private final long[] ways = new long[LAMPS_MOST + 1];
    private int traced = 0;
    private int lastFault = NO_FAULT;

    public LampWall() {
        for (int k = 0; k < SHEETS; k++) {
            rows[k] = new Sheet();
        }
    }

    // ---- 1 the wall

    public int wall(int sheet, int lane, int i, int n) {
        lastFault = NO_FAULT;
        if (!isSheet(sheet)) {
            return UNKNOWN;
        }
        if (!isLane(lane)) {
            return OUTSIDE;
        }
        Sheet row = rows[sheet];
        int found = row.faultOfCells(lane, i, n);
        if (found != NO_FAULT) {
            return faulted(found);
        }
        int firstFault = tried.readText(row, i, n);
        if (firstFault != NONE) {
            return -100 - firstFault;
        }
        now.becomeLike(tried);
        read.count = 0;
        return now.modules;
    }

    public int ofModule(int m, int what) {
        if (!now.hasModule(m)) {
            return UNKNOWN;
        }
        switch (what) {
            case 0: return now.kind[m];
            case 1: return now.size[m];
            case 2: return now.first[m];
            case 3: return now.dead[m] ? 1 : 0;
            case 4: return now.placeAmongLiving(m);
            default: return OUTSIDE;
        }
    }

    public int ofLamp(int l, int what) {
        if (!now.hasLamp(l)) {
            return UNKNOWN;
        }
        switch (what) {
            case 0: return now.home[l];
            case 1: return now.level[l];
            case 2: return now.lightOf(l);
            case 3: return darkestStretch(now.litUnits(l));
            case 4: return turnsOf(now.litUnits(l));
            case 5: return now.litUnits(l);
            case 6: return now.ghostUnits(l);
            default: return OUTSIDE;
        }
    }

    public int level(int l, int v) {
        if (!now.hasLamp(l)) {
            return UNKNOWN;
        }
        if (!isLevel(v)) {
            return OUTSIDE;
        }
        int was = now.level[l];
        now.level[l] = v;
        return was;
    }

    public int die(int m) {
        if (!now.hasModule(m)) {
            return UNKNOWN;
        }
        now.dead[m] = !now.dead[m];
        return now.dead[m] ? 1 : 0;
    }

    public int cut(int v) {
        if (!isCut(v)) {
            return OUTSIDE;
        }
        if (!now.stands()) {
            return STATE;
        }
        int was = now.cutUnits;
        now.layFrame(v);
        return was;
    }

    // ---- 2 the frame

    public int ofUnit(int t, int what) {
        if (!isUnit(t) || what < 0 || what > 4) {
            return OUTSIDE;
        }
        if (!now.stands()) {
            return STATE;
        }
        switch (what) {
            case 0: return now.planeOf[t];
            case 1: return now.currentOf(t);
            case 2: return now.litLamps(t);
            case 3: return now.sliceOf[t];
            default: return now.ghostsIn(t);
        }
    }

    public int slices(int plane) {
        if (plane < -1 || plane >= PLANES) {
            return OUTSIDE;
        }
        if (!now.stands()) {
            return STATE;
        }
        if (plane >= 0) {
            return now.slicesOf(plane);
        }
        int all = 0;
        for (int p = 0; p < PLANES; p++) {
            all += now.slicesOf(p);
        }
        return all;
    }

    public int bears(int budget) {
        if (budget < 0 || budget > LAMPS_MOST) {
            return OUTSIDE;
        }
        if (!now.stands()) {
            return STATE;
        }
        for (int g = FULL_LIGHT; g > 0; g--) {
            if (now.greatestCurrentDimmed(g) <= budget) {
                return g;
            }
        }
        return 0;
    }

    public int steadiest(int what) {
        if (what < 0 || what > 2) {
            return OUTSIDE;
        }
        if (!now.stands()) {
            return STATE;
        }
        if (what == 2) {
            return now.darkTogether();
        }
        tried.becomeLike(now);
        int best = CUT_LEAST;
        int least = Integer.MAX_VALUE;
        for (int c = CUT_LEAST; c <= CUT_MOST; c++) {
            tried.layFrame(c);
            int dark = tried.darkTogether();
            if (dark < least) {
                best = c;
                least = dark;
            }
        }
        return what == 0 ? best : least;
    }

    public int send(int sheet, int lane, int i, int n) {
        lastFault = NO_FAULT;
        if (!isSheet(sheet)) {
            return UNKNOWN;
        }
        if (!isLane(lane) || n < 0 || n > TOLD_MOST) {
            return OUTSIDE;
        }
        if (!now.stands()) {
            return STATE;
        }
        Sheet row = rows[sheet];
        int found = row.faultOfCells(lane, i, n);
        if (found != NO_FAULT) {
            return faulted(found);
        }
        for (int j = i; j < i + n; j++) {
            if (!isLevel(row.cells[j])) {
                return OUTSIDE;
            }
        }
        return n - now.takeLevels(row, i, n);
    }

    public int day(int sheet, int lane, int i, int n, int what) {
        lastFault = NO_FAULT;
        if (!isSheet(sheet)) {
            return UNKNOWN;
        }
        if (!isLane(lane) || n < 0 || n > TOLD_MOST || !isOfDay(what)) {
            return OUTSIDE;
        }
        if (!now.stands()) {
            return STATE;
        }
        Sheet row = rows[sheet];
        int found = row.faultOfCells(lane, i, 2 * n);
        if (found != NO_FAULT) {
            return faulted(found);
        }
        for (int j = i; j < i + 2 * n; j += 2) {
            if (!isAct(row.cells[j], row.cells[j + 1])) {
                return OUTSIDE;
            }
        }
        tried.becomeLike(now);
        int wrong = tried.live(row, i, n);
        if (what == 1) {
            return wrong;
        }
        return wrong != NONE ? -100 - wrong : endOfDay(what);
    }

    // ---- 3 what was lit

    public int reading(int t, int l, int lit) {
        if (!now.hasLamp(l)) {
            return UNKNOWN;
        }
        if (!isUnit(t) || lit < 0 || lit > 1) {
            return OUTSIDE;
        }
        if (read.count >= READINGS_MOST) {
            return FULL;
        }
        return read.note(t, l, lit == 1);
    }

    public int back(int n) {
        if (n < 0 || n > read.count) {
            return OUTSIDE;
        }
        read.count -= n;
        return read.count;
    }

    public int kinds(int m) {
        if (!now.hasModule(m)) {
            return UNKNOWN;
        }
        tried.becomeLike(now);
        int set = 0;
        for (int k = 0; k < KINDS; k++) {
            tried.kind[m] = k;
            if (read.holdFor(tried)) {
                set |= 1 << k;
            }
        }
        return set;
    }

    public int levels(int l) {
        if (!now.hasLamp(l)) {
            return UNKNOWN;
        }
        tried.becomeLike(now);
        int set = 0;
        for (int v = 0; v <= LEVEL_MOST; v++) {
            tried.level[l] = v;
            if (read.holdFor(tried)) {
                set |= 1 << v;
            }
        }
        return set;
    }

    public int cuts() {
        if (!now.stands()) {
            return STATE;
        }
        tried.becomeLike(now);
        int set = 0;
        for (int c = CUT_LEAST; c <= CUT_MOST; c++) {
            tried.layFrame(c);
            if (read.holdFor(tried)) {
                set |= 1 << c;
            }
        }
        return set;
    }

    public long odds(int t, int n, int which) {
        if (!isUnit(t) || n < 0 || n > LAMPS_MOST || which < 0 || which > 1) {
            return LOST;
        }
        if (!now.stands()) {
            return LOST;
        }
        countWays(now.planeOf[t]);
        long upper = 0;
        long lower = 0;
        for (int k = 0; k <= LAMPS_MOST; k++) {
            lower += ways[k];
            if (k >= n) {
                upper += ways[k];
            }
        }
        long common = greatestDivisor(upper, lower);
        if (common == 0) {
            return LOST;
        }
        return (which == 0 ? upper : lower) / common;
    }

    // ---- 4 sheets, parts

    public int sheet(int k, int lane, int n) {
        lastFault = NO_FAULT;
        if (!isSheet(k)) {
            return UNKNOWN;
        }
        if (!isLane(lane) || n > CELLS_MOST) {
            return OUTSIDE;
        }
        if (n < 0) {
            return faulted(SIZE);
        }
        rows[k].begin(lane, n);
        return 1;
    }

    public int lose(int k) {
        if (!isSheet(k)) {
            return UNKNOWN;
        }
        boolean had = rows[k].hasRow;
        rows[k].hasRow = false;
        return had ? 1 : 0;
    }

    public int put(int k, int i, int v) {
        lastFault = NO_FAULT;
        if (!isSheet(k)) {
            return UNKNOWN;
        }
        Sheet row = rows[k];
        int found = row.faultOfCells(row.lane, i, 1);
        if (found != NO_FAULT) {
            return faulted(found);
        }
        row.cells[i] = row.cutToLane(v);
        return 1;
    }

    public long cell(int k, int i, int lane) {
        lastFault = NO_FAULT;
        if (!isSheet(k) || !isLane(lane)) {
            return LOST;
        }
        Sheet row = rows[k];
        lastFault = row.faultOfCells(lane, i, 1);
        return lastFault != NO_FAULT ? LOST : row.cells[i];
    }

    public int copy(int k, int i, int other, int j, int n) {
        lastFault = NO_FAULT;
        if (!isSheet(k) || !isSheet(other)) {
            return UNKNOWN;
        }
        Sheet from = rows[k];
        Sheet to = rows[other];
        if (!from.hasRow || !to.hasRow) {
            return faulted(NULL);
        }
        if (from.lane != to.lane) {
            return faulted(CAST);
        }
        if (n < 0 || !from.holds(i, n) || !to.holds(j, n)) {
            return faulted(INDEX);
        }
        System.arraycopy(from.cells, i, to.cells, j, n);
        return n;
    }

    public int tell(int m) {
        if (!now.hasModule(m)) {
            return UNKNOWN;
        }
        switch (now.kind[m]) {
            case BRIGHT: return tellBright(m);
            case HALVED: return tellHalved(m);
            default: return tellPlain(m);
        }
    }

    public int switchOn(int m) {
        if (!now.hasModule(m)) {
            return UNKNOWN;
        }
        return now.kind[m] == BRIGHT ? switchBright() : switchLent(m);
    }

    public int as(int m, int kind) {
        lastFault = NO_FAULT;
        if (!now.hasModule(m)) {
            return UNKNOWN;
        }
        if (kind < PLAIN || kind > BRIGHT) {
            return OUTSIDE;
        }
        // Each kind is one of the kind below it, too.
        return now.kind[m] >= kind ? 1 : faulted(CAST);
    }

    public int trace() {
        return traced;
    }

    public int fault() {
        return lastFault;
    }

    public int many(int what) {
        switch (what) {
            case 0: return now.modules;
            case 1: return now.lamps;
            case 2: return now.deadModules();
            case 3: return now.lightTogether();
            case 4: return read.count;
            case 5: return now.cutUnits;
            default: return OUTSIDE;
        }
    }

    // ---- what the calls are made of

    private int faulted(int found) {
        lastFault = found;
        return -10 - found;
    }

    private static boolean isSheet(int k) {
        return k >= 0 && k < SHEETS;
    }

    private static boolean isLane(int lane) {
        return lane >= 0 && lane < LANES;
    }

    private static boolean isUnit(int t) {
        return t >= 0 && t < UNITS;
    }

    private static boolean isLevel(int v) {
        return v >= 0 && v <= LEVEL_MOST;
    }

    private static boolean isCut(int v) {
        return v >= CUT_LEAST && v <= CUT_MOST;
    }

    private static boolean isOfDay(int what) {
        return what >= 0 && what <= 4 || what >= WHAT_LEVEL && what < WHAT_LEVEL + LAMPS_MOST;
    }

    private static boolean isAct(int value, int act) {
        if (act >= 0 && act < LAMPS_MOST) {
            return isLevel(value);
        }
        if (act == ACT_CUT) {
            return isCut(value);
        }
        return act >= ACT_DIE && act < ACT_DIE + MODULES_MOST && value == 0;
    }

    private int endOfDay(int what) {
        switch (what) {
            case 0: return tried.lightTogether();
            case 2: return tried.greatestCurrentDimmed(FULL_LIGHT);
            case 3: return tried.darkTogether();
            case 4: return tried.ghostsTogether();
            default:
                int l = what - WHAT_LEVEL;
                return tried.hasLamp(l) ? tried.level[l] : NONE;
        }
    }

    private void countWays(int plane) {
        Arrays.fill(ways, 0);
        ways[0] = 1;
        for (int m = 0; m < now.modules; m++) {
            int lighting = now.dead[m] ? 0 : levelsThatLight(now.kind[m], plane);
            for (int l = 0; l < now.size[m] && !now.dead[m]; l++) {
                addLampToWays(lighting);
            }
        }
    }

    private void addLampToWays(int lighting) {
        int darkening = LEVEL_MOST + 1 - lighting;
        // From above, so that ways[k - 1] is still the one without this LAMP.
        for (int k = LAMPS_MOST; k > 0; k--) {
            ways[k] = ways[k] * darkening + ways[k - 1] * lighting;
        }
        ways[0] *= darkening;
    }

    private static int levelsThatLight(int kind, int plane) {
        int lighting = 0;
        for (int v = 0; v <= LEVEL_MOST; v++) {
            lighting += hasBit(lightBy(kind, v), plane) ? 1 : 0;
        }
        return lighting;
    }

    private static long greatestDivisor(long a, long b) {
        for (int step = 0; step < EUCLID_STEPS_MOST && b != 0; step++) {
            long rest = a % b;
            a = b;
            b = rest;
        }
        return a;
    }

    private static boolean hasBit(int set, int k) {
        return ((set >> k) & 1) == 1;
    }

    private static int lightBy(int kind, int level) {
        int halved = level / 2;
        switch (kind) {
            case BRIGHT: return halved + level;
            case HALVED: return halved;
            default: return level;
        }
    }

    private static int darkestStretch(int litUnits) {
        int most = 0;
        int stretch = 0;
        // Twice through, for a stretch that goes over the end of the FRAME.
        for (int step = 0; step < 2 * UNITS; step++) {
            stretch = hasBit(litUnits, step % UNITS) ? 0 : stretch + 1;
            most = Math.max(most, stretch);
        }
        return Math.min(most, UNITS);
    }

    private static int turnsOf(int litUnits) {
        int litInNext = (litUnits >> 1) | ((litUnits & 1) << (UNITS - 1));
        return Integer.bitCount(litUnits ^ litInNext);
    }

    private void leaveTrace(int body) {
        traced = 31 * traced + body;
    }

    private int tellPlain(int m) {
        leaveTrace(1);
        return now.size[m];
    }

    private int tellHalved(int m) {
        leaveTrace(2);
        return tellPlain(m) + 100;
    }

    private int tellBright(int m) {
        leaveTrace(3);
        int byHalved = tellHalved(m);
        return byHalved + tellPlain(m);
    }

    private int switchLent(int m) {
        leaveTrace(4);
        return now.levelsTogether(m);
    }

    private int switchBright() {
        leaveTrace(5);
        return 60;
    }

    /** A SHEET: nothing, or a row of a LANE. The cells are made once, as a run's room is counted. */
    private static final class Sheet {
        final int[] cells = new int[CELLS_MOST];
        boolean hasRow = false;
        int lane = 0;
        int length = 0;

        void begin(int newLane, int newLength) {
            Arrays.fill(cells, 0);
            hasRow = true;
            lane = newLane;
            length = newLength;
        }

        boolean holds(int i, int n) {
            return i >= 0 && i <= length && n <= length - i;
        }

        int faultOfCells(int takenAs, int i, int n) {
            if (hasRow && lane != takenAs) {
                return CAST;
            }
            if (!hasRow) {
                return NULL;
            }
            if (n < 0) {
                return SIZE;
            }
            return holds(i, n) ? NO_FAULT : INDEX;
        }

        int cutToLane(int v) {
            if (lane == BYTES) {
                return (byte) v;
            }
            return lane == SHORTS ? (short) v : v;
        }
    }

    /** READINGS, in the order in which they came. */
    private static final class Readings {
        final int[] unit = new int[READINGS_MOST];
        final int[] lamp = new int[READINGS_MOST];
        final boolean[] lit = new boolean[READINGS_MOST];
        int count = 0;

        int note(int t, int l, boolean isLit) {
            unit[count] = t;
            lamp[count] = l;
            lit[count] = isLit;
            count++;
            return count - 1;
        }

        boolean holdFor(Wall wall) {
            for (int r = 0; r < count; r++) {
                if (wall.isLit(lamp[r], unit[r]) != lit[r]) {
                    return false;
                }
            }
            return true;
        }
    }

    /** MODULES with their LAMPS, and the FRAME as CUT lays it. */
    private static final class Wall {
        private static final int WANT_W = 0, WANT_CUT = 1, WANT_MODULE = 2, WANT_LETTER = 3,
                WANT_LEVEL = 4, WANT_MORE = 5, WANT_NOTHING = 6;

        final int[] kind = new int[MODULES_MOST];
        final int[] first = new int[MODULES_MOST];
        final int[] size = new int[MODULES_MOST];
        final boolean[] dead = new boolean[MODULES_MOST];
        final int[] level = new int[LAMPS_MOST];
        final int[] home = new int[LAMPS_MOST];
        final int[] planeOf = new int[UNITS];
        final int[] sliceOf = new int[UNITS];
        int modules = 0;
        int lamps = 0;
        int cutUnits = 0;

        boolean stands() {
            return modules > 0;
        }

        boolean hasModule(int m) {
            return m >= 0 && m < modules;
        }

        boolean hasLamp(int l) {
            return l >= 0 && l < lamps;
        }

        void becomeLike(Wall other) {
            System.arraycopy(other.kind, 0, kind, 0, MODULES_MOST);
            System.arraycopy(other.first, 0, first, 0, MODULES_MOST);
            System.arraycopy(other.size, 0, size, 0, MODULES_MOST);
            System.arraycopy(other.dead, 0, dead, 0, MODULES_MOST);
            System.arraycopy(other.level, 0, level, 0, LAMPS_MOST);
            System.arraycopy(other.home, 0, home, 0, LAMPS_MOST);
            System.arraycopy(other.planeOf, 0, planeOf, 0, UNITS);
            System.arraycopy(other.sliceOf, 0, sliceOf, 0, UNITS);
            modules = other.modules;
            lamps = other.lamps;
            cutUnits = other.cutUnits;
        }

        // -- its TEXT

        /** NONE, or the FIRST FAULT: this wall is then of no use. */
        int readText(Sheet row, int i, int n) {
            modules = 0;
            lamps = 0;
            int want = WANT_W;
            for (int place = 0; place < n; place++) {
                want = takeCode(want, row.cells[i + place]);
                if (want == WANT_NOTHING) {
                    return place;
                }
            }
            return want == WANT_MORE ? NONE : n;
        }

        /** What is wanted behind the code; WANT_NOTHING, if no TEXT goes on with it. */
        private int takeCode(int want, int code) {
            switch (want) {
                case WANT_W: return code == 'w' ? WANT_CUT : WANT_NOTHING;
                case WANT_CUT: return takeCut(code - '0');
                case WANT_MODULE: return code == ';' ? WANT_LETTER : WANT_NOTHING;
                case WANT_LETTER: return takeLetter(code);
                case WANT_LEVEL: return takeLevel(code - '0');
                case WANT_MORE: return takeMore(code);
                default: return WANT_NOTHING;
            }
        }

        private int takeCut(int v) {
            if (!isCut(v)) {
                return WANT_NOTHING;
            }
            layFrame(v);
            return WANT_MODULE;
        }

        private int takeLetter(int code) {
            switch (code) {
                case 'p': return addModule(PLAIN);
                case 'h': return addModule(HALVED);
                case 'b': return addModule(BRIGHT);
                default: return WANT_NOTHING;
            }
        }

        private int addModule(int newKind) {
            if (modules >= MODULES_MOST) {
                return WANT_NOTHING;
            }
            kind[modules] = newKind;
            first[modules] = lamps;
            size[modules] = 0;
            dead[modules] = false;
            modules++;
            return WANT_LEVEL;
        }

        private int takeLevel(int v) {
            int m = modules - 1;
            if (!isLevel(v) || m < 0 || size[m] >= LAMPS_OF_MODULE_MOST || lamps >= LAMPS_MOST) {
                return WANT_NOTHING;
            }
            level[lamps] = v;
            home[lamps] = m;
            lamps++;
            size[m]++;
            return WANT_MORE;
        }

        private int takeMore(int code) {
            if (code == ';') {
                return modules < MODULES_MOST ? WANT_LETTER : WANT_NOTHING;
            }
            return takeLevel(code - '0');
        }

        // -- its MODULES

        int placeAmongLiving(int m) {
            if (dead[m]) {
                return NONE;
            }
            int place = 0;
            for (int ahead = 0; ahead < m; ahead++) {
                place += dead[ahead] ? 0 : 1;
            }
            return place;
        }

        int deadModules() {
            int count = 0;
            for (int m = 0; m < modules; m++) {
                count += dead[m] ? 1 : 0;
            }
            return count;
        }

        int levelsTogether(int m) {
            int sum = 0;
            for (int l = first[m]; l < first[m] + size[m]; l++) {
                sum += level[l];
            }
            return sum;
        }

        /** How many of the n numbers were taken. */
        int takeLevels(Sheet row, int i, int n) {
            int taken = 0;
            for (int m = 0; m < modules; m++) {
                if (dead[m]) {
                    continue;
                }
                if (size[m] > n - taken) {
                    break;
                }
                System.arraycopy(row.cells, i + taken, level, first[m], size[m]);
                taken += size[m];
            }
            return taken;
        }

        /** A DAY of acts that are as told: its FIRST WRONG, or NONE. */
        int live(Sheet row, int i, int n) {
            for (int act = 0; act < n; act++) {
                if (!canAct(row.cells[i + 2 * act], row.cells[i + 2 * act + 1])) {
                    return act;
                }
            }
            return NONE;
        }

        private boolean canAct(int value, int act) {
            if (act == ACT_CUT) {
                layFrame(value);
                return true;
            }
            if (act >= ACT_DIE) {
                int m = act - ACT_DIE;
                if (!hasModule(m)) {
                    return false;
                }
                dead[m] = !dead[m];
                return true;
            }
            if (!hasLamp(act)) {
                return false;
            }
            level[act] = value;
            return true;
        }

        // -- its FRAME

        void layFrame(int newCut) {
            cutUnits = newCut;
            int t = 0;
            // No PLANE has more SLICES than the longest has units: rounds enough for each CUT.
            for (int slice = 0; slice < (1 << (PLANES - 1)); slice++) {
                for (int plane = PLANES - 1; plane >= 0; plane--) {
                    int begin = slice * newCut;
                    int end = Math.min(begin + newCut, 1 << plane);
                    for (int u = begin; u < end && t < UNITS; u++) {
                        planeOf[t] = plane;
                        sliceOf[t] = slice;
                        t++;
                    }
                }
            }
        }

        int slicesOf(int plane) {
            int count = 0;
            for (int t = 0; t < UNITS; t++) {
                if (planeOf[t] == plane) {
                    count = Math.max(count, sliceOf[t] + 1);
                }
            }
            return count;
        }

        // -- its light

        int lightOf(int l) {
            int m = home[l];
            return dead[m] ? 0 : lightBy(kind[m], level[l]);
        }

        int lightTogether() {
            int sum = 0;
            for (int l = 0; l < lamps; l++) {
                sum += lightOf(l);
            }
            return sum;
        }

        boolean isLit(int l, int t) {
            return hasBit(lightOf(l), planeOf[t]);
        }

        int litUnits(int l) {
            int light = lightOf(l);
            int set = 0;
            for (int t = 0; t < UNITS; t++) {
                if (hasBit(light, planeOf[t])) {
                    set |= 1 << t;
                }
            }
            return set;
        }

        int litLamps(int t) {
            int set = 0;
            for (int l = 0; l < lamps; l++) {
                if (isLit(l, t)) {
                    set |= 1 << l;
                }
            }
            return set;
        }

        int currentOf(int t) {
            return Integer.bitCount(litLamps(t));
        }

        int greatestCurrentDimmed(int g) {
            int most = 0;
            for (int t = 0; t < UNITS; t++) {
                int current = 0;
                for (int l = 0; l < lamps; l++) {
                    int dimmed = lightOf(l) * g / FULL_LIGHT;
                    current += hasBit(dimmed, planeOf[t]) ? 1 : 0;
                }
                most = Math.max(most, current);
            }
            return most;
        }

        int darkTogether() {
            int sum = 0;
            for (int l = 0; l < lamps; l++) {
                sum += darkestStretch(litUnits(l));
            }
            return sum;
        }

        int ghostUnits(int l) {
            boolean isFirst = l == first[home[l]];
            return isFirst ? 0 : litUnits(l - 1) & ~litUnits(l);
        }

        int ghostsIn(int t) {
            int count = 0;
            for (int l = 0; l < lamps; l++) {
                count += hasBit(ghostUnits(l), t) ? 1 : 0;
            }
            return count;
        }

        int ghostsTogether() {
            int sum = 0;
            for (int l = 0; l < lamps; l++) {
                sum += Integer.bitCount(ghostUnits(l));
            }
            return sum;
        }
    }
}
