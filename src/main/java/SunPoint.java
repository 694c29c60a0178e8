import java.util.Arrays;
import java.util.NoSuchElementException;

/**
 * The best point of a sun panel followed, with a battery and an inverter behind it.
 * Everything an object needs is made in its constructor; no call makes anything more.
 */
public final class SunPoint {
    public static final int NONE = -1;

    private static final int NOT_SO_MANY = -2;
    private static final int NOT_NOW = NONE - 9;
    private static final int NO_SLOPE = -9999999;
    private static final int LAST_TICK = 9999;
    private static final int MOST_TICKS = 500;
    private static final int MOST_IF_TICKS = 300;
    private static final int MOST_ISLAND_TICKS = 200;
    private static final int MOST_POWER_ASKED = 9999999;

    private final Tape tape;
    private final Reader reader;
    private final Station real;
    // What would be is tried out on this one, and a TEXT is read into it first.
    private final Station trial;
    private final Log log;

    public SunPoint() {
        tape = new Tape();
        reader = new Reader(tape);
        real = new Station();
        trial = new Station();
        log = new Log();
    }

    // ---- the TAPE and the TEXT

    public int feed(int a, int b, int c, int d, int e) {
        if (!tape.hasRoomFor(20)) {
            return NONE;
        }
        tape.addNumber(a);
        tape.addNumber(b);
        tape.addNumber(c);
        tape.addNumber(d);
        tape.addNumber(e);
        return tape.size;
    }

    public int text(int n) {
        if (!isWithin(n, 0, tape.size)) {
            return NOT_SO_MANY;
        }
        int lines = reader.readInto(trial, n);
        tape.size = 0;
        if (lines == NONE) {
            return NONE;
        }
        real.copyFrom(trial);
        log.count = 0;
        return lines;
    }

    public int fault(int what) {
        switch (what) {
            case 0:
                return reader.fault;
            case 1:
                return reader.place;
            default:
                return NONE;
        }
    }

    // ---- what is done

    public int ticks(int n) {
        if (!isWithin(n, 1, MOST_TICKS) || real.tick + n > LAST_TICK || !hasModules()) {
            return NONE;
        }
        int given = 0;
        for (int i = 0; i < n; i++) {
            real.advance();
            log.add(real);
            given += real.follower.given;
        }
        return given;
    }

    public int light(int module, int v) {
        if (!isModule(module) || !isWithin(v, 0, 100)) {
            return NONE;
        }
        int before = real.panel.lightOf(module);
        real.panel.setLight(module, v);
        real.panel.reckon();
        return before;
    }

    public int grid(int v) {
        if (!isWithin(v, 0, 1)) {
            return NONE;
        }
        int before = real.inverter.grid;
        real.inverter.grid = v;
        return before;
    }

    public int tune(int v) {
        if (!isWithin(v, Inverter.LEAST_TUNE, Inverter.MOST_TUNE)) {
            return NONE;
        }
        int before = real.inverter.tune;
        real.inverter.tune = v;
        return before;
    }

    public int scan() {
        if (!hasModules()) {
            return NONE;
        }
        if (real.follower.scanning) {
            return 0;
        }
        real.follower.beginScan();
        return 1;
    }

    // ---- what was told

    public int told(int what) {
        return Told.isOne(what) ? real.told.get(what) : NONE;
    }

    public int settle(int what, int v) {
        boolean maySettle = what == Told.DRAIN || isWithin(what, Told.BACK, Told.SHARE);
        if (!maySettle || !Told.mayBe(what, v)) {
            return NONE;
        }
        int before = real.told.get(what);
        real.told.put(what, v);
        return before;
    }

    // ---- the PANEL

    public int module(int module, int what) throws IndexOutOfBoundsException, NoSuchElementException {
        if (!isModule(module)) {
            throw new IndexOutOfBoundsException("no such module");
        }
        switch (what) {
            case 0:
                return real.panel.ampsOf(module);
            case 1:
                return real.panel.voltsOf(module);
            case 2:
                return real.panel.lightOf(module);
            case 3:
                return real.panel.litOf(module);
            default:
                throw new NoSuchElementException("no such what");
        }
    }

    public int volts(int x) {
        return Panel.isPoint(x) ? real.panel.voltsAt(x) : NONE;
    }

    public int power(int x) {
        return Panel.isPoint(x) ? real.panel.powerAt(x) : NONE;
    }

    public int tops() {
        int found = 0;
        for (int x = 0; x < Panel.POINTS; x++) {
            if (real.panel.topEnd(x) != NONE) {
                found++;
            }
        }
        return found;
    }

    public int top(int k, int what) {
        if (k < 0 || !isWithin(what, 0, 2)) {
            return NONE;
        }
        int found = 0;
        for (int x = 0; x < Panel.POINTS; x++) {
            int end = real.panel.topEnd(x);
            if (end == NONE) {
                continue;
            }
            if (found == k) {
                return what == 0 ? x : what == 1 ? real.panel.powerAt(x) : end - x + 1;
            }
            found++;
        }
        return NOT_SO_MANY;
    }

    public int best(int what) {
        switch (what) {
            case 0:
                return real.panel.bestPoint;
            case 1:
                return real.panel.bestPower;
            default:
                return NONE;
        }
    }

    public int band(int n, int what) {
        if (!isWithin(n, 1, 100) || !isWithin(what, 0, 2)) {
            return NONE;
        }
        if (real.panel.bestPower == 0) {
            return NOT_SO_MANY;
        }
        int first = NONE;
        int last = NONE;
        int such = 0;
        for (int x = 0; x < Panel.POINTS; x++) {
            if (isNear(real.panel.powerAt(x), n, real.panel.bestPower)) {
                first = first == NONE ? x : first;
                last = x;
                such++;
            }
        }
        return what == 0 ? first : what == 1 ? last : such;
    }

    public int climbed(int x) {
        if (!Panel.isPoint(x)) {
            return NONE;
        }
        int here = x;
        // Each step leads to more POWER, so that no point is come to twice.
        for (int i = 0; i < Panel.POINTS; i++) {
            int way = real.panel.steeperWay(here);
            if (way == 0) {
                break;
            }
            here += way;
        }
        return here;
    }

    public int shadeOf(int module) {
        return isModule(module) ? bestIfLight(module, 100) - real.panel.bestPower : NONE;
    }

    public int lightFor(int module, int n) {
        if (!isModule(module) || !isWithin(n, 0, MOST_POWER_ASKED)) {
            return NONE;
        }
        if (bestIfLight(module, 100) < n) {
            return NOT_SO_MANY;
        }
        // More LIGHT never makes BEST less, so the range may be halved; 7 halvings leave one of 101.
        int least = 0;
        int enough = 100;
        for (int i = 0; i < 7 && least < enough; i++) {
            int middle = (least + enough) / 2;
            if (bestIfLight(module, middle) >= n) {
                enough = middle;
            } else {
                least = middle + 1;
            }
        }
        return enough;
    }

    public int darkest() {
        int found = NOT_SO_MANY;
        int most = NONE;
        for (int i = 0; i < real.panel.count; i++) {
            int shade = bestIfLight(i, 100) - real.panel.bestPower;
            if (shade > most) {
                most = shade;
                found = i;
            }
        }
        return found;
    }

    // ---- what is now, and what was

    public int now(int what) {
        return isWithin(what, 0, 7) ? followerNow(what) : behindNow(what);
    }

    public long sum(int what) {
        return real.isSum(what) ? real.sumOf(what) : NONE;
    }

    public int past(int i, int what) {
        if (i < 0 || !isWithin(what, Log.POINT, Log.SCANNED)) {
            return NONE;
        }
        return i < log.count ? log.get(i, what) : NOT_SO_MANY;
    }

    public int near(int n) {
        if (!isWithin(n, 0, 100)) {
            return NONE;
        }
        int found = 0;
        for (int i = 0; i < log.count; i++) {
            if (log.wasNear(i, n)) {
                found++;
            }
        }
        return found;
    }

    public int longestAway(int n) {
        if (!isWithin(n, 0, 100)) {
            return NONE;
        }
        int longest = 0;
        int away = 0;
        for (int i = 0; i < log.count; i++) {
            away = log.wasNear(i, n) ? 0 : away + 1;
            longest = Math.max(longest, away);
        }
        return longest;
    }

    public int ripple(int n) {
        if (!isWithin(n, 1, Log.MOST)) {
            return NONE;
        }
        if (log.count == 0) {
            return NOT_SO_MANY;
        }
        int least = log.get(0, Log.POINT);
        int most = least;
        for (int i = 1; i < n && i < log.count; i++) {
            int point = log.get(i, Log.POINT);
            least = Math.min(least, point);
            most = Math.max(most, point);
        }
        return most - least;
    }

    public int average(int n) {
        if (!isWithin(n, 1, Log.MOST)) {
            return NONE;
        }
        int asked = Math.min(n, log.count);
        if (asked == 0) {
            return NOT_SO_MANY;
        }
        int given = 0;
        for (int i = 0; i < asked; i++) {
            given += log.get(i, Log.GIVEN);
        }
        return given / asked;
    }

    public int worst(int what) {
        if (!isWithin(what, 0, 1)) {
            return NONE;
        }
        if (log.count == 0) {
            return NOT_SO_MANY;
        }
        int found = 0;
        int most = NONE;
        for (int i = 0; i < log.count; i++) {
            int missed = log.get(i, Log.BEST) - log.get(i, Log.GIVEN);
            if (missed > most) {
                most = missed;
                found = i;
            }
        }
        return what == 0 ? found : most;
    }

    // ---- what comes at told times

    public int comes(int k, int what) {
        if (k < 0 || !isWithin(what, Schedule.TICK, Schedule.VALUE)) {
            return NONE;
        }
        return k < real.schedule.left() ? real.schedule.get(k, what) : NOT_SO_MANY;
    }

    public int cancel(int k) {
        if (k < 0) {
            return NONE;
        }
        if (k >= real.schedule.left()) {
            return NOT_SO_MANY;
        }
        real.schedule.drop(k);
        return real.schedule.left();
    }

    // ---- what would be

    public int ifTicks(int n, int what) {
        if (!mayTry(n) || !isWithin(what, 0, 7)) {
            return NONE;
        }
        beginTrial();
        trial.advanceBy(n);
        switch (what) {
            case 0:
                return (int) trial.sumOf(Station.GIVEN);
            case 1:
                return (int) trial.sumOf(Station.TAKEN);
            case 2:
                return (int) trial.sumOf(Station.OUT);
            case 3:
                return (int) trial.sumOf(Station.SPILLED);
            case 4:
                return trial.battery.charge;
            case 5:
                return trial.battery.stage;
            case 6:
                return (int) trial.sumOf(Station.ISLANDS);
            default:
                return trial.follower.point;
        }
    }

    public int firstSeen(int n) {
        return mayTry(n) ? firstTick(n, Station.AN_ISLAND_WAS_SEEN) : NONE;
    }

    public int firstFloat(int n) {
        return mayTry(n) ? firstTick(n, Station.IT_FLOATS) : NONE;
    }

    public int leastPush(int n) {
        if (!isWithin(n, 1, MOST_ISLAND_TICKS)) {
            return NONE;
        }
        for (int push = Told.leastOf(Told.PUSH); push <= Told.mostOf(Told.PUSH); push++) {
            if (real.inverter.firstAlone(real.inverter.tune, push, n, real.told) != NOT_SO_MANY) {
                return push;
            }
        }
        return NOT_SO_MANY;
    }

    public int bestStep(int n) {
        if (!mayTry(n)) {
            return NONE;
        }
        int found = NONE;
        long most = NONE;
        for (int step = 1; step <= Follower.MOST_STEP; step *= 2) {
            beginTrial();
            trial.told.put(Told.STEP, step);
            trial.follower.step = step;
            trial.advanceBy(n);
            if (trial.sumOf(Station.GIVEN) > most) {
                most = trial.sumOf(Station.GIVEN);
                found = step;
            }
        }
        return found;
    }

    public int bestWay(int n) {
        if (!mayTry(n)) {
            return NONE;
        }
        int found = NONE;
        long most = NONE;
        for (int way = Told.leastOf(Told.WAY); way <= Told.mostOf(Told.WAY); way++) {
            beginTrial();
            trial.told.put(Told.WAY, way);
            trial.advanceBy(n);
            if (trial.sumOf(Station.GIVEN) > most) {
                most = trial.sumOf(Station.GIVEN);
                found = way;
            }
        }
        return found;
    }

    public int bestShare() {
        if (!hasModules()) {
            return NOT_SO_MANY;
        }
        int found = NONE;
        int most = NONE;
        for (int share = Told.leastOf(Told.SHARE); share <= Told.mostOf(Told.SHARE); share++) {
            int given = real.panel.powerAt(real.panel.pointOfShare(share));
            if (given > most) {
                most = given;
                found = share;
            }
        }
        return found;
    }

    public int slope(int x) {
        if (!Panel.isPoint(x) || !Panel.isPoint(x + 1)) {
            return NO_SLOPE;
        }
        return real.panel.powerAt(x + 1) - real.panel.powerAt(x);
    }

    public int firstFull(int n) {
        return mayTry(n) ? firstTick(n, Station.IT_IS_FULL) : NONE;
    }

    public int seenBy(int v, int n) {
        if (!isWithin(v, Inverter.LEAST_TUNE, Inverter.MOST_TUNE) || !isWithin(n, 1, MOST_ISLAND_TICKS)) {
            return NONE;
        }
        return real.inverter.firstAlone(v, real.told.get(Told.PUSH), n, real.told);
    }

    public int blind(int n) {
        if (!isWithin(n, 1, MOST_ISLAND_TICKS)) {
            return NONE;
        }
        int found = 0;
        for (int v = Inverter.LEAST_TUNE; v <= Inverter.MOST_TUNE; v += 100) {
            if (real.inverter.firstAlone(v, real.told.get(Told.PUSH), n, real.told) == NOT_SO_MANY) {
                found++;
            }
        }
        return found;
    }

    public int bestGap(int n) {
        if (!mayTry(n)) {
            return NONE;
        }
        int found = NONE;
        long most = NONE;
        for (int gap = Told.leastOf(Told.GAP); gap <= Told.mostOf(Told.GAP); gap += 10) {
            beginTrial();
            trial.told.put(Told.GAP, gap);
            trial.follower.beginScan();
            trial.advanceBy(n);
            if (trial.sumOf(Station.GIVEN) > most) {
                most = trial.sumOf(Station.GIVEN);
                found = gap;
            }
        }
        return found;
    }

    public int ifNear(int n, int b) {
        if (!mayTry(n) || !isWithin(b, 0, 100)) {
            return NONE;
        }
        beginTrial();
        int found = 0;
        for (int i = 0; i < n; i++) {
            trial.advance();
            if (isNear(trial.follower.given, b, trial.panel.bestPower)) {
                found++;
            }
        }
        return found;
    }

    public int count(int what) {
        switch (what) {
            case 0:
                return real.panel.count;
            case 1:
                return real.schedule.left();
            case 2:
                return log.count;
            case 3:
                return tape.size;
            default:
                return NONE;
        }
    }

    // ---- helpers of the face

    private static boolean isWithin(int v, int least, int most) {
        return v >= least && v <= most;
    }

    private static int flag(boolean holds) {
        return holds ? 1 : 0;
    }

    private static boolean isNear(int given, int percent, int most) {
        return given * 100 >= percent * most;
    }

    private boolean hasModules() {
        return real.panel.count > 0;
    }

    private boolean isModule(int module) {
        return isWithin(module, 0, real.panel.count - 1);
    }

    private boolean mayTry(int n) {
        return isWithin(n, 1, MOST_IF_TICKS) && hasModules();
    }

    private void beginTrial() {
        trial.copyFrom(real);
        trial.clearSums();
    }

    private int firstTick(int n, int event) {
        beginTrial();
        for (int i = 1; i <= n; i++) {
            trial.advance();
            if (trial.holds(event)) {
                return i;
            }
        }
        return NOT_SO_MANY;
    }

    private int bestIfLight(int module, int v) {
        trial.panel.copyFrom(real.panel);
        trial.panel.setLight(module, v);
        trial.panel.reckon();
        return trial.panel.bestPower;
    }

    private int followerNow(int what) {
        Follower follower = real.follower;
        switch (what) {
            case 0:
                return real.tick;
            case 1:
                return follower.point;
            case 2:
                return follower.direction;
            case 3:
                return follower.step;
            case 4:
                return follower.streak;
            case 5:
                return follower.last;
            case 6:
                return flag(follower.scanning);
            case 7:
                return follower.since;
            default:
                return NOT_NOW;
        }
    }

    private int behindNow(int what) {
        Battery battery = real.battery;
        Inverter inverter = real.inverter;
        switch (what) {
            case 8:
                return battery.charge;
            case 9:
                return battery.stage;
            case 10:
                return battery.heldLong;
            case 11:
                return flag(inverter.on);
            case 12:
                return inverter.grid;
            case 13:
                return inverter.tune;
            case 14:
                return inverter.rate;
            case 15:
                return inverter.out;
            case 16:
                return inverter.bad;
            case 17:
                return inverter.waited;
            default:
                return NOT_NOW;
        }
    }

    // ---- the parts

    /** The bytes that were fed and not yet read. */
    private static final class Tape {
        static final int MOST = 900;

        final byte[] bytes = new byte[MOST];
        int size;

        boolean hasRoomFor(int more) {
            return size + more <= MOST;
        }

        void addNumber(int number) {
            for (int shift = 24; shift >= 0; shift -= 8) {
                if (size < MOST) {
                    bytes[size] = (byte) (number >>> shift);
                    size++;
                }
            }
        }
    }

    /** What is told by number, with the bounds of each. */
    private static final class Told {
        static final int CAP = 0;
        static final int DRAIN = 1;
        static final int HIGH = 2;
        static final int LOW = 3;
        static final int BACK = 4;
        static final int HOLD = 5;
        static final int TAPER = 6;
        static final int WINDOW = 7;
        static final int TRIP = 8;
        static final int PUSH = 9;
        static final int WAIT = 10;
        static final int RAMP = 11;
        static final int STEP = 12;
        static final int LEARN = 13;
        static final int GAP = 14;
        static final int EVERY = 15;
        static final int DROP = 16;
        static final int WAY = 17;
        static final int SHARE = 18;
        static final int MANY = 19;

        private static final int[] FIRST = {
            10000, 0, 1400, 1350, 80, 20, 100, 500, 3, 50, 10, 5000, 4, 3, 50, 0, 0, 0, 75};
        private static final int[] LEAST = {
            1000, 0, 1100, 1100, 0, 1, 0, 1, 1, 0, 1, 1, 1, 1, 10, 0, 0, 0, 1};
        private static final int[] MOST = {
            99999, 999, 2000, 2000, 100, 200, 99999, 5000, 20, 1000, 99, 99999, 64, 9, 200, 500, 100, 2, 99};

        private final int[] values = new int[MANY];

        static boolean isOne(int what) {
            return what >= 0 && what < MANY;
        }

        static int leastOf(int what) {
            return what >= 0 && what < MANY ? LEAST[what] : 0;
        }

        static int mostOf(int what) {
            return what >= 0 && what < MANY ? MOST[what] : 0;
        }

        static boolean mayBe(int what, int v) {
            return what >= 0 && what < MANY && v >= LEAST[what] && v <= MOST[what];
        }

        void renew() {
            System.arraycopy(FIRST, 0, values, 0, MANY);
        }

        void copyFrom(Told other) {
            System.arraycopy(other.values, 0, values, 0, MANY);
        }

        int get(int what) {
            return what >= 0 && what < MANY ? values[what] : 0;
        }

        void put(int what, int v) {
            if (what >= 0 && what < MANY) {
                values[what] = v;
            }
        }
    }

    /** The MODULES in a row, and the POWER at every POINT as LIGHT is. */
    private static final class Panel {
        static final int POINTS = 1000;
        static final int MOST_MODULES = 6;

        int count;
        int bestPoint;
        int bestPower;
        private final int[] amps = new int[MOST_MODULES];
        private final int[] moduleVolts = new int[MOST_MODULES];
        private final int[] lights = new int[MOST_MODULES];
        private final int[] lits = new int[MOST_MODULES];
        private final int[] powers = new int[POINTS];

        static boolean isPoint(int x) {
            return x >= 0 && x < POINTS;
        }

        /** Behind it, and what is told then, reckon() is due. */
        void renew() {
            count = 0;
        }

        void copyFrom(Panel other) {
            count = other.count;
            bestPoint = other.bestPoint;
            bestPower = other.bestPower;
            System.arraycopy(other.amps, 0, amps, 0, MOST_MODULES);
            System.arraycopy(other.moduleVolts, 0, moduleVolts, 0, MOST_MODULES);
            System.arraycopy(other.lights, 0, lights, 0, MOST_MODULES);
            System.arraycopy(other.lits, 0, lits, 0, MOST_MODULES);
            System.arraycopy(other.powers, 0, powers, 0, POINTS);
        }

        void addModule(int itsAmps, int itsVolts) {
            if (count < MOST_MODULES) {
                amps[count] = itsAmps;
                moduleVolts[count] = itsVolts;
                lights[count] = 100;
                lits[count] = itsAmps;
                count++;
            }
        }

        int ampsOf(int module) {
            return has(module) ? amps[module] : 0;
        }

        int voltsOf(int module) {
            return has(module) ? moduleVolts[module] : 0;
        }

        int lightOf(int module) {
            return has(module) ? lights[module] : 0;
        }

        int litOf(int module) {
            return has(module) ? lits[module] : 0;
        }

        private boolean has(int module) {
            return module >= 0 && module < count && module < MOST_MODULES;
        }

        /** After the last of such changes reckon() is due. */
        void setLight(int module, int v) {
            if (has(module)) {
                lights[module] = v;
                lits[module] = amps[module] * v / 100;
            }
        }

        private int greatestLit() {
            int most = 0;
            for (int i = 0; i < count && i < MOST_MODULES; i++) {
                most = Math.max(most, lits[i]);
            }
            return most;
        }

        int pointOfShare(int share) {
            return share * greatestLit() / 100;
        }

        int voltsAt(int x) {
            int all = 0;
            for (int i = 0; i < count && i < MOST_MODULES; i++) {
                int square = lits[i] * lits[i];
                if (x < lits[i] && square > 0) {
                    all += moduleVolts[i] * (square - x * x) / square;
                }
            }
            return all;
        }

        int powerAt(int x) {
            return x >= 0 && x < POINTS ? powers[x] : 0;
        }

        /** POWER at every POINT, and BEST, by the LIGHT that is. */
        void reckon() {
            int lit = greatestLit();
            bestPoint = 0;
            bestPower = 0;
            Arrays.fill(powers, 0);
            for (int x = 0; x < POINTS && x < lit; x++) {
                powers[x] = x * voltsAt(x) / 10;
                if (powers[x] > bestPower) {
                    bestPower = powers[x];
                    bestPoint = x;
                }
            }
        }

        /** The last point of the TOP whose first point x is; NONE: there begins none. */
        int topEnd(int x) {
            int height = powerAt(x);
            if (height <= powerAt(x - 1)) {
                return NONE;
            }
            int end = x;
            for (int i = x + 1; i < POINTS && powerAt(i) == height; i++) {
                end = i;
            }
            return powerAt(end + 1) < height ? end : NONE;
        }

        /** 1 or -1 towards the neighbour with more POWER than x, of like ones down; 0: neither has more. */
        int steeperWay(int x) {
            int here = powerAt(x);
            int up = powerAt(x + 1);
            int down = powerAt(x - 1);
            if (up <= here && down <= here) {
                return 0;
            }
            return up > down ? 1 : -1;
        }
    }

    /** What comes at told times: by TICK, of one TICK in the order of the TEXT. */
    private static final class Schedule {
        static final int MOST = 24;
        static final int TICK = 0;
        static final int KIND = 1;
        static final int MODULE = 2;
        static final int VALUE = 3;
        static final int MANY = 4;
        static final int LIGHT = 0;
        static final int GRID = 1;
        static final int TUNE = 2;

        int count;
        private int next;
        private final int[] rows = new int[MOST * MANY];

        void renew() {
            count = 0;
            next = 0;
        }

        void copyFrom(Schedule other) {
            count = other.count;
            next = other.next;
            System.arraycopy(other.rows, 0, rows, 0, MOST * MANY);
        }

        int left() {
            return count - next;
        }

        /** Of the k-th one that comes yet. */
        int get(int k, int what) {
            boolean isThere = k >= 0 && k < left() && what >= 0 && what < MANY;
            return isThere ? rows[(next + k) * MANY + what] : NOT_SO_MANY;
        }

        void add(int tick, int kind, int module, int value) {
            if (count >= MOST) {
                return;
            }
            int row = count;
            for (int i = count; i > 0 && rows[(i - 1) * MANY + TICK] > tick; i--) {
                System.arraycopy(rows, (i - 1) * MANY, rows, i * MANY, MANY);
                row = i - 1;
            }
            rows[row * MANY + TICK] = tick;
            rows[row * MANY + KIND] = kind;
            rows[row * MANY + MODULE] = module;
            rows[row * MANY + VALUE] = value;
            count++;
        }

        void drop(int k) {
            if (k < 0 || k >= left()) {
                return;
            }
            int behind = next + k + 1;
            System.arraycopy(rows, behind * MANY, rows, (behind - 1) * MANY, (count - behind) * MANY);
            count--;
        }

        void passNext() {
            if (left() > 0) {
                next++;
            }
        }
    }

    /** Goes from POINT to POINT so that much is GIVEN. */
    private static final class Follower {
        static final int MOST_STEP = 64;
        private static final int LAST_POINT = Panel.POINTS - 1;
        private static final int SLOPE = 1;
        private static final int SHARE = 2;

        int point;
        int direction;
        int step;
        int streak;
        int last;
        int since;
        int given;
        boolean scanning;
        boolean scanned;
        boolean scanEnded;
        // Whether the SCAN that goes on has been at a POINT yet, and the best of them.
        private boolean scanMoved;
        private int scanPoint;
        private int scanGiven;

        void renew() {
            point = 0;
            direction = 1;
            step = 0;
            streak = 0;
            last = 0;
            since = 0;
            given = 0;
            scanning = false;
            scanned = false;
            scanEnded = false;
            scanMoved = false;
            scanPoint = 0;
            scanGiven = 0;
        }

        void copyFrom(Follower other) {
            point = other.point;
            direction = other.direction;
            step = other.step;
            streak = other.streak;
            last = other.last;
            since = other.since;
            given = other.given;
            scanning = other.scanning;
            scanned = other.scanned;
            scanEnded = other.scanEnded;
            scanMoved = other.scanMoved;
            scanPoint = other.scanPoint;
            scanGiven = other.scanGiven;
        }

        void beginScan() {
            scanning = true;
            scanMoved = false;
        }

        private void moveTo(int x, Panel panel) {
            point = Math.max(0, Math.min(LAST_POINT, x));
            given = panel.powerAt(point);
        }

        /** A TICK in a SCAN. */
        void scanOn(Panel panel, Told told) {
            scanned = true;
            scanEnded = false;
            int target = scanMoved ? point + told.get(Told.GAP) : 0;
            if (target > LAST_POINT) {
                endScan(panel, told);
                return;
            }
            moveTo(target, panel);
            if (!scanMoved || given > scanGiven) {
                scanPoint = point;
                scanGiven = given;
            }
            scanMoved = true;
        }

        private void endScan(Panel panel, Told told) {
            moveTo(scanPoint, panel);
            step = told.get(Told.STEP);
            streak = 0;
            direction = 1;
            since = 0;
            last = given;
            scanning = false;
            scanEnded = true;
        }

        /** A TICK without a SCAN. */
        void seek(Panel panel, Told told) {
            scanned = false;
            scanEnded = false;
            since++;
            switch (told.get(Told.WAY)) {
                case SHARE:
                    moveTo(panel.pointOfShare(told.get(Told.SHARE)), panel);
                    break;
                case SLOPE:
                    goUphill(panel, told);
                    break;
                default:
                    climb(panel, told);
                    break;
            }
            if (wantsScan(told)) {
                beginScan();
            }
            last = given;
        }

        private void goUphill(Panel panel, Told told) {
            int way = panel.steeperWay(point);
            moveTo(point + way * step, panel);
            if (way == direction) {
                lengthen(told);
            } else {
                direction = way == 0 ? direction : way;
                shorten();
            }
        }

        private void climb(Panel panel, Told told) {
            moveTo(point + direction * step, panel);
            if (given > last) {
                lengthen(told);
            } else {
                direction = -direction;
                shorten();
            }
        }

        private void lengthen(Told told) {
            streak++;
            if (streak >= told.get(Told.LEARN)) {
                streak = 0;
                step = Math.min(MOST_STEP, 2 * step);
            }
        }

        private void shorten() {
            step = Math.max(1, step / 2);
            streak = 0;
        }

        private boolean wantsScan(Told told) {
            int every = told.get(Told.EVERY);
            int drop = told.get(Told.DROP);
            return every > 0 && since >= every || drop > 0 && given * 100 < last * (100 - drop);
        }
    }

    /** Takes of what is GIVEN, in BULK, HELD or in FLOAT. */
    private static final class Battery {
        static final int BULK = 0;
        static final int HELD = 1;
        static final int FLOAT = 2;

        int charge;
        int stage;
        int heldLong;
        int drained;
        int taken;
        // The stage that began in this TICK, NONE without.
        int began;

        void renew() {
            charge = 0;
            stage = BULK;
            heldLong = 0;
            drained = 0;
            taken = 0;
            began = NONE;
        }

        void copyFrom(Battery other) {
            charge = other.charge;
            stage = other.stage;
            heldLong = other.heldLong;
            drained = other.drained;
            taken = other.taken;
            began = other.began;
        }

        void take(int given, Told told) {
            int cap = told.get(Told.CAP);
            drained = Math.min(charge, told.get(Told.DRAIN));
            charge -= drained;
            int base = 1100 + (cap > 0 ? 300 * charge / cap : 0);
            taken = Math.min(wanted(given, base, told), cap - charge);
            charge += taken;
            began = nextStage(given, base, told);
            if (began == HELD) {
                heldLong = 0;
            }
            if (began != NONE) {
                stage = began;
            }
        }

        private int wanted(int given, int base, Told told) {
            if (stage == BULK) {
                return given;
            }
            int kept = told.get(stage == HELD ? Told.HIGH : Told.LOW);
            return Math.max(0, Math.min(given, 20 * (kept - base) + 19));
        }

        private int nextStage(int given, int base, Told told) {
            int cap = told.get(Told.CAP);
            if (stage == BULK) {
                boolean isHigh = base + taken / 20 >= told.get(Told.HIGH);
                return isHigh || charge == cap ? HELD : NONE;
            }
            if (stage == HELD) {
                heldLong++;
                int taper = told.get(Told.TAPER);
                boolean isTapered = taken < taper && given >= taper;
                return isTapered || heldLong >= told.get(Told.HOLD) ? FLOAT : NONE;
            }
            return charge * 100 < told.get(Told.BACK) * cap ? BULK : NONE;
        }
    }

    /** Puts OUT what is left, and pushes RATE so that it sees an ISLAND. */
    private static final class Inverter {
        static final int LEAST_TUNE = 45000;
        static final int MOST_TUNE = 55000;
        private static final int MIDDLE = 50000;

        boolean on;
        int grid;
        int tune;
        int rate;
        int out;
        int bad;
        int waited;
        boolean seen;

        void renew() {
            on = true;
            grid = 1;
            tune = MIDDLE;
            rate = MIDDLE;
            out = 0;
            bad = 0;
            waited = 0;
            seen = false;
        }

        void copyFrom(Inverter other) {
            on = other.on;
            grid = other.grid;
            tune = other.tune;
            rate = other.rate;
            out = other.out;
            bad = other.bad;
            waited = other.waited;
            seen = other.seen;
        }

        void run(int left, Told told) {
            seen = false;
            if (on) {
                drive(told);
                out = seen ? 0 : Math.min(left, out + told.get(Told.RAMP));
            } else {
                rest(told);
                out = 0;
            }
        }

        private void drive(Told told) {
            rate = grid == 1 ? MIDDLE : pushed(rate, tune, told.get(Told.PUSH));
            bad = isFar(rate, told) ? bad + 1 : 0;
            if (bad >= told.get(Told.TRIP)) {
                seen = true;
                on = false;
                waited = 0;
                bad = 0;
            }
        }

        private void rest(Told told) {
            waited = grid == 1 ? waited + 1 : 0;
            if (waited >= told.get(Told.WAIT)) {
                on = true;
                rate = MIDDLE;
                bad = 0;
            }
        }

        private static int pushed(int from, int towards, int push) {
            int drawn = from + (towards - from) / 8;
            return drawn >= MIDDLE ? drawn + push : drawn - push;
        }

        private static boolean isFar(int rate, Told told) {
            return Math.abs(rate - MIDDLE) > told.get(Told.WINDOW);
        }

        /** In which of n TICKS, ON and without GRID all the time, an ISLAND would be SEEN first. */
        int firstAlone(int towards, int push, int n, Told told) {
            int rateThen = rate;
            int badThen = bad;
            for (int i = 1; i <= n; i++) {
                rateThen = pushed(rateThen, towards, push);
                badThen = isFar(rateThen, told) ? badThen + 1 : 0;
                if (badThen >= told.get(Told.TRIP)) {
                    return i;
                }
            }
            return NOT_SO_MANY;
        }
    }

    /** All that a TICK works on, and what the TICKS brought together. */
    private static final class Station {
        static final int GIVEN = 0;
        static final int BEST = 1;
        static final int TAKEN = 2;
        static final int OUT = 3;
        static final int SPILLED = 4;
        static final int DRAINED = 5;
        static final int ISLANDS = 6;
        static final int SCANS = 7;
        static final int HELD_BEGAN = 8;
        static final int FLOAT_BEGAN = 9;
        static final int BULK_BEGAN = 10;
        static final int MANY = 11;
        static final int AN_ISLAND_WAS_SEEN = 0;
        static final int IT_FLOATS = 1;
        static final int IT_IS_FULL = 2;

        int tick;
        int spilled;
        final Told told = new Told();
        final Panel panel = new Panel();
        final Schedule schedule = new Schedule();
        final Follower follower = new Follower();
        final Battery battery = new Battery();
        final Inverter inverter = new Inverter();
        private final long[] sums = new long[MANY];

        Station() {
            renew();
            begin();
        }

        /** As nothing were told; begin() is due when all is told. */
        void renew() {
            tick = 0;
            spilled = 0;
            told.renew();
            panel.renew();
            schedule.renew();
            follower.renew();
            battery.renew();
            inverter.renew();
            clearSums();
        }

        void begin() {
            panel.reckon();
            follower.step = told.get(Told.STEP);
        }

        void copyFrom(Station other) {
            tick = other.tick;
            spilled = other.spilled;
            told.copyFrom(other.told);
            panel.copyFrom(other.panel);
            schedule.copyFrom(other.schedule);
            follower.copyFrom(other.follower);
            battery.copyFrom(other.battery);
            inverter.copyFrom(other.inverter);
            System.arraycopy(other.sums, 0, sums, 0, MANY);
        }

        void clearSums() {
            Arrays.fill(sums, 0L);
        }

        boolean isSum(int what) {
            return what >= 0 && what < MANY;
        }

        long sumOf(int what) {
            return isSum(what) ? sums[what] : 0;
        }

        void advanceBy(int n) {
            for (int i = 0; i < n; i++) {
                advance();
            }
        }

        /** One TICK. */
        void advance() {
            tick++;
            doWhatComes();
            if (follower.scanning) {
                follower.scanOn(panel, told);
            } else {
                follower.seek(panel, told);
            }
            battery.take(follower.given, told);
            int left = follower.given - battery.taken;
            inverter.run(left, told);
            spilled = left - inverter.out;
            addUp();
        }

        private void doWhatComes() {
            boolean lightChanged = false;
            for (int i = 0; i < Schedule.MOST && schedule.left() > 0; i++) {
                if (schedule.get(0, Schedule.TICK) > tick) {
                    break;
                }
                int value = schedule.get(0, Schedule.VALUE);
                switch (schedule.get(0, Schedule.KIND)) {
                    case Schedule.LIGHT:
                        panel.setLight(schedule.get(0, Schedule.MODULE), value);
                        lightChanged = true;
                        break;
                    case Schedule.GRID:
                        inverter.grid = value;
                        break;
                    default:
                        inverter.tune = value;
                        break;
                }
                schedule.passNext();
            }
            if (lightChanged) {
                panel.reckon();
            }
        }

        private void addUp() {
            sums[GIVEN] += follower.given;
            sums[BEST] += panel.bestPower;
            sums[TAKEN] += battery.taken;
            sums[OUT] += inverter.out;
            sums[SPILLED] += spilled;
            sums[DRAINED] += battery.drained;
            sums[ISLANDS] += flag(inverter.seen);
            sums[SCANS] += flag(follower.scanEnded);
            sums[HELD_BEGAN] += flag(battery.began == Battery.HELD);
            sums[FLOAT_BEGAN] += flag(battery.began == Battery.FLOAT);
            sums[BULK_BEGAN] += flag(battery.began == Battery.BULK);
        }

        boolean holds(int event) {
            switch (event) {
                case AN_ISLAND_WAS_SEEN:
                    return inverter.seen;
                case IT_FLOATS:
                    return battery.stage == Battery.FLOAT;
                default:
                    return battery.charge == told.get(Told.CAP);
            }
        }
    }

    /** The latest TICKS, each a row of the ring. */
    private static final class Log {
        static final int MOST = 100;
        static final int POINT = 0;
        static final int GIVEN = 1;
        static final int BEST = 2;
        static final int TAKEN = 3;
        static final int OUT = 4;
        static final int SPILLED = 5;
        static final int RATE = 6;
        static final int BATTERY = 7;
        static final int ON = 8;
        static final int SCANNED = 9;
        static final int MANY = 10;

        int count;
        private int latest;
        private final int[] rows = new int[MOST * MANY];

        void add(Station station) {
            latest = (latest + 1) % MOST;
            count = Math.min(MOST, count + 1);
            int row = latest * MANY;
            rows[row + POINT] = station.follower.point;
            rows[row + GIVEN] = station.follower.given;
            rows[row + BEST] = station.panel.bestPower;
            rows[row + TAKEN] = station.battery.taken;
            rows[row + OUT] = station.inverter.out;
            rows[row + SPILLED] = station.spilled;
            rows[row + RATE] = station.inverter.rate;
            rows[row + BATTERY] = station.battery.stage;
            rows[row + ON] = flag(station.inverter.on);
            rows[row + SCANNED] = flag(station.follower.scanned);
        }

        /** Of the TICK that is i back. */
        int get(int i, int what) {
            if (i < 0 || i >= count || what < 0 || what >= MANY) {
                return NOT_SO_MANY;
            }
            return rows[(latest + MOST - i) % MOST * MANY + what];
        }

        boolean wasNear(int i, int percent) {
            return isNear(get(i, GIVEN), percent, get(i, BEST));
        }
    }

    /** The words of the language; of a LINE that tells numbers the first and the last of them. */
    private enum Word {
        MODULE("module", NONE, NONE),
        BATTERY("battery", Told.CAP, Told.DRAIN),
        STAGES("stages", Told.HIGH, Told.TAPER),
        INVERTER("inverter", Told.WINDOW, Told.RAMP),
        FOLLOW("follow", Told.STEP, Told.DROP),
        WAY("way", Told.WAY, Told.SHARE),
        AT("at", NONE, NONE),
        LIGHT("light", NONE, NONE),
        GRID("grid", NONE, NONE),
        TUNE("tune", NONE, NONE),
        // No TOKEN is spelt so: this is what is no word of the language.
        OTHER("", NONE, NONE);

        final String letters;
        final int first;
        final int last;

        Word(String letters, int first, int last) {
            this.letters = letters;
            this.first = first;
            this.last = last;
        }
    }

    /** Reads a TEXT from the TAPE, one TOKEN ahead, up to its first FAULT. */
    private static final class Reader {
        private static final Word[] WORDS = Word.values();
        private static final int END = 0;
        private static final int BLANK = 1;
        private static final int WORD = 2;
        private static final int NUMBER = 3;
        private static final int SEMICOLON = 4;
        private static final int STRANGE = 5;
        private static final int CANT_STAND = 1;
        private static final int TOO_MUCH = 2;
        private static final int TOLD_ALREADY = 3;
        // Beyond every bound, so that more digits needn't be read.
        private static final int GREAT = 1000000;

        int fault;
        int place;
        private final Tape tape;
        private int length;
        // The TOKEN at which the reader is, from start to just ahead of end.
        private int kind;
        private int start;
        private int end;
        // A bit for each kind of LINE that may be told but once, by its first number.
        private int toldBits;

        Reader(Tape tape) {
            this.tape = tape;
            place = NONE;
        }

        /** How many LINES the first n bytes have; NONE with a FAULT, and the target is of no use. */
        int readInto(Station target, int n) {
            fault = 0;
            place = NONE;
            length = n;
            end = 0;
            toldBits = 0;
            target.renew();
            nextToken();
            int lines = 0;
            // A LINE without FAULT has a byte at least.
            for (int i = 0; i <= n && kind != END && fault == 0; i++) {
                readLine(target);
                lines++;
            }
            target.begin();
            return fault == 0 ? lines : NONE;
        }

        private void readLine(Station target) {
            Word line = wordHere();
            switch (line) {
                case MODULE:
                    readModule(target);
                    break;
                case BATTERY:
                case STAGES:
                case INVERTER:
                case FOLLOW:
                case WAY:
                    readSettings(target, line);
                    break;
                case AT:
                    readAt(target);
                    break;
                default:
                    refuse(CANT_STAND);
                    break;
            }
            if (kind != SEMICOLON) {
                refuse(CANT_STAND);
            }
            nextToken();
        }

        private void readModule(Station target) {
            if (toldBits != 0 || target.schedule.count > 0) {
                refuse(CANT_STAND);
            }
            if (target.panel.count >= Panel.MOST_MODULES) {
                refuse(TOO_MUCH);
            }
            nextToken();
            int amps = readNumber(1, 999);
            int volts = readNumber(1, 999);
            if (fault == 0) {
                target.panel.addModule(amps, volts);
            }
        }

        private void readSettings(Station target, Word line) {
            int bit = 1 << line.first;
            if (target.panel.count == 0 || target.schedule.count > 0) {
                refuse(CANT_STAND);
            }
            if ((toldBits & bit) != 0) {
                refuse(TOLD_ALREADY);
            }
            toldBits |= bit;
            nextToken();
            for (int what = line.first; what <= line.last && fault == 0; what++) {
                // CHARGE stands ahead of DRAIN, and is not kept as told.
                if (what == Told.DRAIN) {
                    target.battery.charge = readNumber(0, target.told.get(Told.CAP));
                }
                int most = what == Told.LOW ? target.told.get(Told.HIGH) : Told.mostOf(what);
                target.told.put(what, readNumber(Told.leastOf(what), most));
            }
        }

        private void readAt(Station target) {
            if (target.panel.count == 0) {
                refuse(CANT_STAND);
            }
            if (target.schedule.count >= Schedule.MOST) {
                refuse(TOO_MUCH);
            }
            nextToken();
            int tick = readNumber(1, LAST_TICK);
            switch (wordHere()) {
                case LIGHT:
                    nextToken();
                    int module = readNumber(0, target.panel.count - 1);
                    addComing(target, tick, Schedule.LIGHT, module, readNumber(0, 100));
                    break;
                case GRID:
                    nextToken();
                    addComing(target, tick, Schedule.GRID, NOT_SO_MANY, readNumber(0, 1));
                    break;
                case TUNE:
                    nextToken();
                    int tune = readNumber(Inverter.LEAST_TUNE, Inverter.MOST_TUNE);
                    addComing(target, tick, Schedule.TUNE, NOT_SO_MANY, tune);
                    break;
                default:
                    refuse(CANT_STAND);
                    break;
            }
        }

        private void addComing(Station target, int tick, int what, int module, int value) {
            if (fault == 0) {
                target.schedule.add(tick, what, module, value);
            }
        }

        /** The first FAULT stays; so those of one place are looked for least first. */
        private void refuse(int what) {
            if (fault == 0) {
                fault = what;
                place = start;
            }
        }

        // ---- TOKENS

        private int readNumber(int least, int most) {
            int number = 0;
            for (int i = start; i < end && number < GREAT; i++) {
                number = number * 10 + signAt(i) - '0';
            }
            if (kind != NUMBER) {
                refuse(CANT_STAND);
            } else if (number < least || number > most) {
                refuse(TOO_MUCH);
            }
            nextToken();
            return number;
        }

        private Word wordHere() {
            for (int i = 0; i < WORDS.length; i++) {
                if (kind == WORD && isSpelt(WORDS[i].letters)) {
                    return WORDS[i];
                }
            }
            return Word.OTHER;
        }

        private boolean isSpelt(String letters) {
            if (letters.length() != end - start) {
                return false;
            }
            for (int i = 0; i < letters.length(); i++) {
                if (letters.charAt(i) != signAt(start + i)) {
                    return false;
                }
            }
            return true;
        }

        private void nextToken() {
            start = end;
            while (start < length && kindOf(signAt(start)) == BLANK) {
                start++;
            }
            kind = start < length ? kindOf(signAt(start)) : END;
            end = Math.min(start + 1, length);
            if (kind == WORD || kind == NUMBER) {
                while (end < length && kindOf(signAt(end)) == kind) {
                    end++;
                }
            }
        }

        private int signAt(int i) {
            return i >= 0 && i < tape.size && i < Tape.MOST ? tape.bytes[i] & 255 : 0;
        }

        private static int kindOf(int sign) {
            if (sign == 10 || sign == 32) {
                return BLANK;
            }
            if (sign >= 'a' && sign <= 'z') {
                return WORD;
            }
            if (sign >= '0' && sign <= '9') {
                return NUMBER;
            }
            return sign == ';' ? SEMICOLON : STRANGE;
        }
    }
}
