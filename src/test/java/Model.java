import java.util.ArrayList;
import java.util.Arrays;
import java.util.List;
import java.util.NoSuchElementException;
import java.util.function.Predicate;
import java.util.function.ToLongFunction;
import java.util.regex.Matcher;
import java.util.regex.Pattern;

/**
 * The document read a second time: slow, with the library, and sharing nothing with SunPoint, so that the two
 * can be held against each other.
 */
final class Model {
    static final int[] FIRST = {10000, 0, 1400, 1350, 80, 20, 100, 500, 3, 50, 10, 5000, 4, 3, 50, 0, 0, 0, 75};
    static final int[][] RANGES = {
        {1000, 99999}, {0, 999}, {1100, 2000}, {1100, 2000}, {0, 100}, {1, 200}, {0, 99999}, {1, 5000}, {1, 20},
        {0, 1000}, {1, 99}, {1, 99999}, {1, 64}, {1, 9}, {10, 200}, {0, 500}, {0, 100}, {0, 2}, {1, 99}};

    private List<Integer> tape = new ArrayList<>();
    private int fault = 0;
    private int place = -1;
    World world = new World();

    // ---------------------------------------------------------------- the world

    static final class World {
        List<int[]> modules = new ArrayList<>(); // amps, volts, light
        int[] told = FIRST.clone();
        List<int[]> coming = new ArrayList<>(); // tick, kind, module, value
        int tick = 0;
        int point = 0, direction = 1, step = 4, streak = 0, last = 0, since = 0;
        List<int[]> scan = null; // of the SCAN that goes on: POINT, GIVEN
        int charge = 0, battery = 0, heldLong = 0;
        boolean on = true;
        int grid = 1, tune = 50000, rate = 50000, out = 0, bad = 0, waited = 0;
        long[] sums = new long[11];
        List<int[]> log = new ArrayList<>(); // the latest first

        private int[] cachedFor = null;
        private int[] cached = null;

        World copy() {
            World w = new World();
            for (int[] m : modules) {
                w.modules.add(m.clone());
            }
            w.told = told.clone();
            w.coming = new ArrayList<>(coming);
            w.tick = tick;
            w.point = point;
            w.direction = direction;
            w.step = step;
            w.streak = streak;
            w.last = last;
            w.since = since;
            w.scan = scan == null ? null : new ArrayList<>(scan);
            w.charge = charge;
            w.battery = battery;
            w.heldLong = heldLong;
            w.on = on;
            w.grid = grid;
            w.tune = tune;
            w.rate = rate;
            w.out = out;
            w.bad = bad;
            w.waited = waited;
            return w;
        }

        int lit(int[] module) {
            return module[0] * module[2] / 100;
        }

        int greatestLit() {
            return modules.stream().mapToInt(this::lit).max().orElse(0);
        }

        int volts(int x) {
            long all = 0;
            for (int[] m : modules) {
                long lit = lit(m);
                all += x >= lit ? 0 : m[1] * (lit * lit - (long) x * x) / (lit * lit);
            }
            return (int) all;
        }

        int[] powers() {
            int[] key = modules.stream().flatMapToInt(Arrays::stream).toArray();
            if (!Arrays.equals(key, cachedFor)) {
                cachedFor = key;
                cached = new int[1000];
                for (int x = 0; x < 1000; x++) {
                    cached[x] = x * volts(x) / 10;
                }
            }
            return cached;
        }

        int best() {
            return Arrays.stream(powers()).max().getAsInt();
        }

        int bestPoint() {
            int best = best();
            int x = 0;
            while (powers()[x] != best) {
                x++;
            }
            return x;
        }

        private void double2() {
            streak++;
            if (streak >= told[13]) {
                streak = 0;
                step = step * 2 > 64 ? 64 : step * 2;
            }
        }

        private void halve() {
            step = step / 2 < 1 ? 1 : step / 2;
            streak = 0;
        }

        private static int inside(int x) {
            return x < 0 ? 0 : x > 999 ? 999 : x;
        }

        /** The row of the LOG. */
        int[] tick() {
            tick++;
            while (!coming.isEmpty() && coming.get(0)[0] == tick) {
                int[] c = coming.remove(0);
                if (c[1] == 0) {
                    modules.get(c[2])[2] = c[3];
                } else if (c[1] == 1) {
                    grid = c[3];
                } else {
                    tune = c[3];
                }
            }
            int[] p = powers();
            int best = best();
            boolean scanned = scan != null;
            int given = scanned ? scanTick(p) : freeTick(p);
            int drained = charge < told[1] ? charge : told[1];
            charge -= drained;
            sums[5] += drained;
            int taken = batteryTick(given);
            boolean wasOn = on;
            boolean seen = inverterTick();
            int left = given - taken;
            out = !wasOn || seen ? 0 : Math.min(left, out + told[11]);
            int[] row = {point, given, best, taken, out, left - out, rate, battery, on ? 1 : 0, scanned ? 1 : 0};
            for (int i = 0; i < 5; i++) {
                sums[i] += row[i + 1];
            }
            // SUM has GIVEN, BEST, TAKEN, OUT, SPILLED in the order of the LOG.
            log.add(0, row);
            if (log.size() > 100) {
                log.remove(100);
            }
            return row;
        }

        private int scanTick(int[] p) {
            int to = scan.isEmpty() ? 0 : scan.get(scan.size() - 1)[0] + told[14];
            if (to <= 999) {
                point = to;
                scan.add(new int[] {to, p[to]});
                return p[to];
            }
            int[] most = scan.get(0);
            for (int[] s : scan) {
                most = s[1] > most[1] ? s : most;
            }
            point = most[0];
            step = told[12];
            streak = 0;
            direction = 1;
            since = 0;
            last = p[point];
            scan = null;
            sums[7]++;
            return last;
        }

        private int freeTick(int[] p) {
            since++;
            if (told[17] == 2) {
                point = told[18] * greatestLit() / 100;
            } else if (told[17] == 1) {
                int here = p[point];
                int up = point == 999 ? -1 : p[point + 1];
                int down = point == 0 ? -1 : p[point - 1];
                if (up > here || down > here) {
                    int way = down >= up ? -1 : 1;
                    point = inside(point + way * step);
                    if (way == direction) {
                        double2();
                    } else {
                        direction = way;
                        halve();
                    }
                } else {
                    halve();
                }
            } else {
                point = inside(point + direction * step);
                if (p[point] > last) {
                    double2();
                } else {
                    direction = -direction;
                    halve();
                }
            }
            int given = p[point];
            if (told[15] > 0 && since >= told[15] || told[16] > 0 && given * 100L < last * (100L - told[16])) {
                scan = new ArrayList<>();
            }
            last = given;
            return given;
        }

        private int batteryTick(int given) {
            int base = 1100 + 300 * charge / told[0];
            int taken = given;
            if (battery > 0) {
                int most = 20 * ((battery == 1 ? told[2] : told[3]) - base) + 19;
                taken = taken > most ? most : taken;
                taken = taken < 0 ? 0 : taken;
            }
            taken = taken > told[0] - charge ? told[0] - charge : taken;
            charge += taken;
            if (battery == 0) {
                if (base + taken / 20 >= told[2] || charge == told[0]) {
                    battery = 1;
                    heldLong = 0;
                    sums[8]++;
                }
            } else if (battery == 1) {
                heldLong++;
                if (heldLong >= told[5] || taken < told[6] && !(given < told[6])) {
                    battery = 2;
                    sums[9]++;
                }
            } else if (charge * 100L < (long) told[4] * told[0]) {
                battery = 0;
                sums[10]++;
            }
            return taken;
        }

        private boolean inverterTick() {
            if (on) {
                rate = grid == 1 ? 50000 : push(rate, tune, told[9]);
                bad = rate < 50000 - told[7] || rate > 50000 + told[7] ? bad + 1 : 0;
                if (bad < told[8]) {
                    return false;
                }
                on = false;
                waited = 0;
                bad = 0;
                sums[6]++;
                return true;
            }
            waited = grid == 1 ? waited + 1 : 0;
            if (waited >= told[10]) {
                on = true;
                rate = 50000;
                bad = 0;
            }
            return false;
        }

        static int push(int rate, int tune, int push) {
            int by = tune >= rate ? (tune - rate) / 8 : -((rate - tune) / 8);
            int r = rate + by;
            return r >= 50000 ? r + push : r - push;
        }

        /** In which TICK alone an ISLAND would be SEEN; 0 in none. */
        int alone(int tuneThen, int pushThen, int n) {
            World w = copy();
            w.on = true;
            w.grid = 0;
            w.tune = tuneThen;
            w.told[9] = pushThen;
            for (int i = 1; i <= n; i++) {
                if (w.inverterTick()) {
                    return i;
                }
            }
            return 0;
        }
    }

    // ---------------------------------------------------------------- the TEXT

    private static final class Fault extends RuntimeException {
        private static final long serialVersionUID = 1L;
        final int what;
        final int where;

        Fault(int what, int where) {
            super(null, null, false, false);
            this.what = what;
            this.where = where;
        }
    }

    private static final class Text {
        final List<String> tokens = new ArrayList<>();
        final List<Integer> places = new ArrayList<>();
        int i = 0;
        World w = new World();
        int lines = 0;

        Text(String text) {
            Matcher m = Pattern.compile("[a-z]+|[0-9]+|[^ \\n]", Pattern.DOTALL).matcher(text);
            while (m.find()) {
                tokens.add(m.group());
                places.add(m.start());
            }
            tokens.add("");
            places.add(text.length());
        }

        int here() {
            return places.get(i);
        }

        int number(long least, long most) {
            String t = tokens.get(i);
            if (!t.matches("[0-9]+")) {
                throw new Fault(1, here());
            }
            java.math.BigInteger v = new java.math.BigInteger(t);
            if (v.compareTo(java.math.BigInteger.valueOf(least)) < 0
                    || v.compareTo(java.math.BigInteger.valueOf(most)) > 0) {
                throw new Fault(2, here());
            }
            i++;
            return v.intValue();
        }

        void read() {
            List<String> sections = List.of("battery", "stages", "inverter", "follow", "way");
            int[] froms = {0, 2, 7, 12, 17, 19};
            List<String> had = new ArrayList<>();
            int ats = 0;
            for (; !tokens.get(i).isEmpty(); lines++) {
                int p = here();
                String word = tokens.get(i++);
                if (word.equals("module")) {
                    if (!had.isEmpty() || ats > 0) {
                        throw new Fault(1, p);
                    }
                    if (w.modules.size() == 6) {
                        throw new Fault(2, p);
                    }
                    w.modules.add(new int[] {number(1, 999), number(1, 999), 100});
                } else if (sections.contains(word)) {
                    if (w.modules.isEmpty() || ats > 0) {
                        throw new Fault(1, p);
                    }
                    if (had.contains(word)) {
                        throw new Fault(3, p);
                    }
                    had.add(word);
                    int s = sections.indexOf(word);
                    for (int what = froms[s]; what < froms[s + 1]; what++) {
                        if (what == 1) {
                            w.charge = number(0, w.told[0]);
                        }
                        w.told[what] = number(RANGES[what][0], what == 3 ? w.told[2] : RANGES[what][1]);
                    }
                } else if (word.equals("at")) {
                    if (w.modules.isEmpty()) {
                        throw new Fault(1, p);
                    }
                    if (++ats == 25) {
                        throw new Fault(2, p);
                    }
                    int tick = number(1, 9999);
                    int q = here();
                    String kind = tokens.get(i++);
                    if (kind.equals("light")) {
                        int m = number(0, w.modules.size() - 1);
                        w.coming.add(new int[] {tick, 0, m, number(0, 100)});
                    } else if (kind.equals("grid")) {
                        w.coming.add(new int[] {tick, 1, -2, number(0, 1)});
                    } else if (kind.equals("tune")) {
                        w.coming.add(new int[] {tick, 2, -2, number(45000, 55000)});
                    } else {
                        throw new Fault(1, q);
                    }
                } else {
                    throw new Fault(1, p);
                }
                if (!tokens.get(i).equals(";")) {
                    throw new Fault(1, here());
                }
                i++;
            }
            w.coming.sort((a, b) -> Integer.compare(a[0], b[0]));
            w.step = w.told[12];
        }
    }

    // ---------------------------------------------------------------- the face

    int feed(int a, int b, int c, int d, int e) {
        if (tape.size() > 880) {
            return -1;
        }
        for (int v : new int[] {a, b, c, d, e}) {
            tape.add(v >> 24 & 255);
            tape.add(v >> 16 & 255);
            tape.add(v >> 8 & 255);
            tape.add(v & 255);
        }
        return tape.size();
    }

    int text(int n) {
        if (n < 0 || n > tape.size()) {
            return -2;
        }
        StringBuilder s = new StringBuilder();
        for (int b : tape.subList(0, n)) {
            s.append((char) b);
        }
        tape.clear();
        Text text = new Text(s.toString());
        try {
            text.read();
        } catch (Fault f) {
            fault = f.what;
            place = f.where;
            return -1;
        }
        fault = 0;
        place = -1;
        world = text.w;
        return text.lines;
    }

    int fault(int what) {
        return what == 0 ? fault : what == 1 ? place : -1;
    }

    int ticks(int n) {
        if (n < 1 || n > 500 || none() || world.tick + n > 9999) {
            return -1;
        }
        int given = 0;
        for (int i = 0; i < n; i++) {
            given += world.tick()[1];
        }
        return given;
    }

    private boolean none() {
        return world.modules.isEmpty();
    }

    private boolean noModule(int module) {
        return module < 0 || module >= world.modules.size();
    }

    private static boolean not(int v, int least, int most) {
        return v < least || v > most;
    }

    int light(int module, int v) {
        if (noModule(module) || not(v, 0, 100)) {
            return -1;
        }
        int was = world.modules.get(module)[2];
        world.modules.get(module)[2] = v;
        return was;
    }

    int grid(int v) {
        if (not(v, 0, 1)) {
            return -1;
        }
        int was = world.grid;
        world.grid = v;
        return was;
    }

    int tune(int v) {
        if (not(v, 45000, 55000)) {
            return -1;
        }
        int was = world.tune;
        world.tune = v;
        return was;
    }

    int scan() {
        if (none()) {
            return -1;
        }
        if (world.scan != null) {
            return 0;
        }
        world.scan = new ArrayList<>();
        return 1;
    }

    int told(int what) {
        return not(what, 0, 18) ? -1 : world.told[what];
    }

    int settle(int what, int v) {
        if (what != 1 && not(what, 4, 18) || not(v, RANGES[what][0], RANGES[what][1])) {
            return -1;
        }
        int was = world.told[what];
        world.told[what] = v;
        return was;
    }

    int module(int module, int what) {
        if (noModule(module)) {
            throw new IndexOutOfBoundsException();
        }
        if (not(what, 0, 3)) {
            throw new NoSuchElementException();
        }
        int[] m = world.modules.get(module);
        return what == 3 ? world.lit(m) : m[what];
    }

    int volts(int x) {
        return not(x, 0, 999) ? -1 : world.volts(x);
    }

    int power(int x) {
        return not(x, 0, 999) ? -1 : world.powers()[x];
    }

    private List<int[]> allTops() {
        List<int[]> found = new ArrayList<>();
        int[] p = world.powers();
        for (int first = 0; first < 1000; first++) {
            int behind = first;
            while (behind < 1000 && p[behind] == p[first]) {
                behind++;
            }
            int before = first == 0 ? 0 : p[first - 1];
            int after = behind == 1000 ? 0 : p[behind];
            if (p[first] > 0 && p[first] > before && p[first] > after) {
                found.add(new int[] {first, p[first], behind - first});
            }
        }
        return found;
    }

    int tops() {
        return allTops().size();
    }

    int top(int k, int what) {
        if (k < 0 || not(what, 0, 2)) {
            return -1;
        }
        return k < allTops().size() ? allTops().get(k)[what] : -2;
    }

    int best(int what) {
        return what == 0 ? world.bestPoint() : what == 1 ? world.best() : -1;
    }

    int band(int n, int what) {
        if (not(n, 1, 100) || not(what, 0, 2)) {
            return -1;
        }
        if (world.best() == 0) {
            return -2;
        }
        List<Integer> such = new ArrayList<>();
        for (int x = 0; x < 1000; x++) {
            if (world.powers()[x] * 100L >= (long) n * world.best()) {
                such.add(x);
            }
        }
        return what == 0 ? such.get(0) : what == 1 ? such.get(such.size() - 1) : such.size();
    }

    int climbed(int x) {
        if (not(x, 0, 999)) {
            return -1;
        }
        int[] p = world.powers();
        while (true) {
            boolean up = x < 999 && p[x + 1] > p[x];
            boolean down = x > 0 && p[x - 1] > p[x];
            if (!up && !down) {
                return x;
            }
            x = down && (!up || p[x - 1] >= p[x + 1]) ? x - 1 : x + 1;
        }
    }

    private int bestWith(int module, int light) {
        World w = world.copy();
        w.modules.get(module)[2] = light;
        return w.best();
    }

    int shadeOf(int module) {
        return noModule(module) ? -1 : bestWith(module, 100) - world.best();
    }

    int lightFor(int module, int n) {
        if (noModule(module) || not(n, 0, 9999999)) {
            return -1;
        }
        for (int v = 0; v <= 100; v++) {
            if (bestWith(module, v) >= n) {
                return v;
            }
        }
        return -2;
    }

    int darkest() {
        int found = -2;
        for (int i = 0; i < world.modules.size(); i++) {
            if (found == -2 || shadeOf(i) > shadeOf(found)) {
                found = i;
            }
        }
        return found;
    }

    int now(int what) {
        World w = world;
        int[] all = {w.tick, w.point, w.direction, w.step, w.streak, w.last, w.scan == null ? 0 : 1, w.since, w.charge,
            w.battery, w.heldLong, w.on ? 1 : 0, w.grid, w.tune, w.rate, w.out, w.bad, w.waited};
        return not(what, 0, 17) ? -10 : all[what];
    }

    long sum(int what) {
        return not(what, 0, 10) ? -1 : world.sums[what];
    }

    int past(int i, int what) {
        if (i < 0 || not(what, 0, 9)) {
            return -1;
        }
        return i < world.log.size() ? world.log.get(i)[what] : -2;
    }

    private static boolean near(int[] row, int n) {
        return row[1] * 100L >= (long) n * row[2];
    }

    int near(int n) {
        return not(n, 0, 100) ? -1 : (int) world.log.stream().filter(r -> near(r, n)).count();
    }

    int longestAway(int n) {
        if (not(n, 0, 100)) {
            return -1;
        }
        StringBuilder s = new StringBuilder();
        for (int[] r : world.log) {
            s.append(near(r, n) ? ' ' : 'a');
        }
        return Arrays.stream(s.toString().split(" ")).mapToInt(String::length).max().orElse(0);
    }

    private List<int[]> latest(int n) {
        return world.log.subList(0, Math.min(n, world.log.size()));
    }

    int ripple(int n) {
        if (not(n, 1, 100)) {
            return -1;
        }
        if (world.log.isEmpty()) {
            return -2;
        }
        return latest(n).stream().mapToInt(r -> r[0]).max().getAsInt()
            - latest(n).stream().mapToInt(r -> r[0]).min().getAsInt();
    }

    int average(int n) {
        if (not(n, 1, 100)) {
            return -1;
        }
        return world.log.isEmpty() ? -2 : latest(n).stream().mapToInt(r -> r[1]).sum() / latest(n).size();
    }

    int worst(int what) {
        if (not(what, 0, 1)) {
            return -1;
        }
        if (world.log.isEmpty()) {
            return -2;
        }
        int most = world.log.stream().mapToInt(r -> r[2] - r[1]).max().getAsInt();
        int i = 0;
        while (world.log.get(i)[2] - world.log.get(i)[1] < most) {
            i++;
        }
        return what == 0 ? i : most;
    }

    int comes(int k, int what) {
        if (k < 0 || not(what, 0, 3)) {
            return -1;
        }
        return k < world.coming.size() ? world.coming.get(k)[what] : -2;
    }

    int cancel(int k) {
        if (k < 0) {
            return -1;
        }
        if (k >= world.coming.size()) {
            return -2;
        }
        world.coming.remove(k);
        return world.coming.size();
    }

    private boolean noTrial(int n) {
        return none() || not(n, 1, 300);
    }

    private World after(World w, int n) {
        for (int i = 0; i < n; i++) {
            w.tick();
        }
        return w;
    }

    int ifTicks(int n, int what) {
        if (noTrial(n) || not(what, 0, 7)) {
            return -1;
        }
        World w = after(world.copy(), n);
        long[] all = {w.sums[0], w.sums[2], w.sums[3], w.sums[4], w.charge, w.battery, w.sums[6], w.point};
        return (int) all[what];
    }

    private int first(int n, Predicate<World> holds) {
        if (noTrial(n)) {
            return -1;
        }
        World w = world.copy();
        for (int i = 1; i <= n; i++) {
            w.tick();
            if (holds.test(w)) {
                return i;
            }
        }
        return -2;
    }

    int firstSeen(int n) {
        return first(n, w -> w.sums[6] == 1);
    }

    int firstFloat(int n) {
        return first(n, w -> w.battery == 2);
    }

    int firstFull(int n) {
        return first(n, w -> w.charge == w.told[0]);
    }

    int leastPush(int n) {
        if (not(n, 1, 200)) {
            return -1;
        }
        for (int push = 0; push <= 1000; push++) {
            if (world.alone(world.tune, push, n) > 0) {
                return push;
            }
        }
        return -2;
    }

    private static int most(int[] of, ToLongFunction<Integer> value) {
        int found = of[0];
        for (int v : of) {
            if (value.applyAsLong(v) > value.applyAsLong(found)) {
                found = v;
            }
        }
        return found;
    }

    int bestStep(int n) {
        return noTrial(n) ? -1 : most(new int[] {1, 2, 4, 8, 16, 32, 64}, s -> {
            World w = world.copy();
            w.told[12] = s;
            w.step = s;
            return after(w, n).sums[0];
        });
    }

    int bestWay(int n) {
        return noTrial(n) ? -1 : most(new int[] {0, 1, 2}, s -> {
            World w = world.copy();
            w.told[17] = s;
            return after(w, n).sums[0];
        });
    }

    int bestGap(int n) {
        int[] gaps = new int[20];
        for (int i = 0; i < 20; i++) {
            gaps[i] = 10 * i + 10;
        }
        return noTrial(n) ? -1 : most(gaps, s -> {
            World w = world.copy();
            w.told[14] = s;
            w.scan = new ArrayList<>();
            return after(w, n).sums[0];
        });
    }

    int bestShare() {
        int[] shares = new int[99];
        for (int i = 0; i < 99; i++) {
            shares[i] = i + 1;
        }
        return none() ? -2 : most(shares, s -> world.powers()[s * world.greatestLit() / 100]);
    }

    int slope(int x) {
        return not(x, 0, 998) ? -9999999 : world.powers()[x + 1] - world.powers()[x];
    }

    int seenBy(int v, int n) {
        if (not(v, 45000, 55000) || not(n, 1, 200)) {
            return -1;
        }
        int i = world.alone(v, world.told[9], n);
        return i == 0 ? -2 : i;
    }

    int blind(int n) {
        if (not(n, 1, 200)) {
            return -1;
        }
        int found = 0;
        for (int v = 45000; v <= 55000; v += 100) {
            found += world.alone(v, world.told[9], n) == 0 ? 1 : 0;
        }
        return found;
    }

    int ifNear(int n, int b) {
        if (noTrial(n) || not(b, 0, 100)) {
            return -1;
        }
        World w = world.copy();
        int found = 0;
        for (int i = 0; i < n; i++) {
            found += near(w.tick(), b) ? 1 : 0;
        }
        return found;
    }

    int count(int what) {
        int[] all = {world.modules.size(), world.coming.size(), world.log.size(), tape.size()};
        return not(what, 0, 3) ? -1 : all[what];
    }
}
