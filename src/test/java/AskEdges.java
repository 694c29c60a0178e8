/** The boundary cases of what is and what was (promises 23 to 30), what comes (31, 32), how many (46), and of all calls. */
final class AskEdges {
    private static final String STEADY = Edges.ONE + "way 2 60;";
    private static final int[] NO_PERCENT = {-1, 101, 102, Edges.MIN, Edges.MAX};
    private static final int[] NO_LATEST = {0, -1, 101, 102, Edges.MIN, Edges.MAX};

    private AskEdges() {
    }

    static void all() {
        log();
        now();
        sum();
        past();
        near();
        longestAway();
        ripple();
        average();
        worst();
        comes();
        cancel();
        count();
        askedChangesNothing();
        noneGoesFirst();
        refusedChangesNothing();
    }

    /** A TICK for each SHARE. LIT is 100: POINT is SHARE. GIVEN: 39 at 4, 79 at 8, 192 at 20, 384 at 60, 9 at 1. */
    private static SunPoint went(int... shares) {
        SunPoint s = Edges.of(STEADY);
        for (int share : shares) {
            s.settle(18, share);
            s.ticks(1);
        }
        return s;
    }

    // ---------------------------------------------------------------- the LOG

    private static void log() {
        Edges.sentence(0, "The LOG has the latest 100 TICKS: POINT, GIVEN, BEST then (as LIGHT was in it), TAKEN, OUT, SPILLED, RATE, what the"
            + " BATTERY was in behind it (0 BULK, 1 HELD, 2 FLOAT), whether the INVERTER was ON behind it, whether it SCANNED in it (the"
            + " TICK in which a SCAN ends, too).");
        SunPoint s = Edges.of(Edges.ONE + "way 2 1;");
        for (int tick = 1; tick <= 205; tick++) {
            s.settle(18, tick % 99 + 1);
            s.ticks(1);
            int there = Math.min(100, tick);
            Edges.due("count(2) in TICK " + tick, s.count(2), there);
            Edges.due("the latest in TICK " + tick, s.past(0, 0), tick % 99 + 1);
            Edges.due("the oldest in TICK " + tick, s.past(there - 1, 0), (tick - there + 1) % 99 + 1);
            Edges.due("one before it in TICK " + tick, s.past(there, 0), -2);
        }
        // BEST as LIGHT was in the TICK: told times come first, a call behind it comes too late.
        SunPoint light = Edges.of(STEADY + "at 2 light 0 50;");
        light.ticks(2);
        light.light(0, 0);
        Edges.row(light, 30, 192, 192);
        Edges.due("past(1, 2)", light.past(1, 2), 384);
        light.ticks(1);
        Edges.row(light, 0, 0, 0);
        Edges.due("past(1, 2)", light.past(1, 2), 192);
        // Behind it: HELD in the TICK in which it begins, and so FLOAT; OFF in the one in which an ISLAND is SEEN.
        SunPoint behind = Edges.of(STEADY + "battery 1000 1000 0;stages 1400 1100 100 1 0;inverter 10 1 100 1 99999;at 3 grid 0;at 4 grid 1;");
        int[][] rows = {{60, 384, 384, 0, 384, 0, 50000, 1, 1, 0}, {60, 384, 384, 0, 384, 0, 50000, 2, 1, 0},
            {60, 384, 384, 0, 0, 384, 50100, 2, 0, 0}, {60, 384, 384, 0, 0, 384, 50000, 2, 1, 0}};
        for (int[] row : rows) {
            behind.ticks(1);
            Edges.row(behind, row);
        }
        // SCANNED: not where it begins, yes where it ends.
        SunPoint scan = Edges.of(Edges.ONE + "follow 4 3 200 3 0;");
        scan.ticks(10);
        int[] scanned = {0, 0, 0, 1, 1, 1, 1, 1, 1, 0};
        for (int i = 0; i < 10; i++) {
            Edges.due("SCANNED in TICK " + (i + 1), scan.past(9 - i, 9), scanned[i]);
        }
        // What was GIVEN in a SCAN is in the LOG like all else.
        Edges.due("past(1, 0)", scan.past(2, 0), 800);
        // 500 TICKS by one call: the latest 100 of them.
        SunPoint many = Edges.after(STEADY, 500);
        Edges.due("count(2)", many.count(2), 100);
        Edges.due("past(99, 0)", many.past(99, 0), 60);
        // A TEXT empties it, one with a FAULT doesn't.
        many.text(Edges.feed(many, "#"));
        Edges.due("count(2) behind a FAULT", many.count(2), 100);
        many.text(Edges.feed(many, STEADY));
        Edges.due("count(2) behind a TEXT", many.count(2), 0);
        Edges.due("past(0, 0) behind a TEXT", many.past(0, 0), -2);
    }

    private static void now() {
        Edges.sentence(23, "NONE - 9 for another what.");
        SunPoint s = Edges.after(Edges.ONE + "battery 2000 7 3;inverter 10 9 20 2 30;at 3 grid 0;at 3 tune 50400;", 4);
        int[] want = {4, 20, 1, 8, 1, 192, 0, 4, 422, 0, 0, 1, 0, 50400, 50131, 0, 2, 0};
        for (int what = 0; what < 18; what++) {
            Edges.due("now(" + what + ")", s.now(what), want[what]);
        }
        for (int what : new int[] {-1, 18, 19, Edges.MIN, Edges.MAX}) {
            Edges.due("now(" + what + ")", s.now(what), -10);
            Edges.due("now(" + what + ") of a new one", new SunPoint().now(what), -10);
        }
    }

    private static void sum() {
        Edges.sentence(24, "NONE for another what.");
        SunPoint s = Edges.after(STEADY, 3);
        for (int what : new int[] {-1, 11, 12, Edges.MIN, Edges.MAX}) {
            Edges.due("sum(" + what + ")", s.sum(what), -1);
        }
        for (int what = 0; what < 11; what++) {
            Edges.due("sum(" + what + ") of a new one", new SunPoint().sum(what), 0);
        }

        Edges.sentence(24, "All TICKS together, what 0 GIVEN, 1 BEST, 2 TAKEN, 3 OUT, 4 SPILLED, 5 what DRAIN took, 6 how many ISLANDS were SEEN,"
            + " 7 how many SCANS ended, 8 how often HELD began, 9 FLOAT, 10 BULK (anew).");
        // More than an int holds: six times 999 AMPS, 999 VOLTS.
        SunPoint much = Edges.of(Edges.times(6, "module 999 999;") + "battery 1000 1000 0;inverter 500 3 50 10 99999;way 2 58;");
        long given = 0;
        for (int left = 9999; left > 0; left -= 500) {
            given += much.ticks(Math.min(500, left));
        }
        Edges.holds("beyond an int", given > Edges.MAX);
        Edges.due("sum(0)", much.sum(0), given);
        Edges.due("sum(1)", much.sum(1), 9999L * much.best(1));
        Edges.due("sum(2)", much.sum(2), 0);
        Edges.due("sum(3) and sum(4)", much.sum(3) + much.sum(4), given);
        Edges.due("OUT in a TICK", much.past(0, 4), much.past(0, 1));
        // DRAIN takes no more than there is; BULK at first doesn't count, a SCAN that goes on doesn't.
        SunPoint few = Edges.after("module 1 9;battery 1000 5 3;follow 4 3 10 0 0;", 3);
        Edges.due("sum(5)", few.sum(5), 5);
        few.scan();
        few.ticks(100);
        Edges.due("sum(7)", few.sum(7), 0);
        few.ticks(1);
        Edges.due("sum(7)", few.sum(7), 1);
        for (int what = 8; what <= 10; what++) {
            Edges.due("sum(" + what + ")", few.sum(what), 0);
        }
        // A SCAN that a TEXT broke off has not ended; all is anew.
        few.scan();
        few.text(Edges.feed(few, STEADY));
        few.ticks(1);
        Edges.due("sum(7)", few.sum(7), 0);
        Edges.due("sum(0)", few.sum(0), 384);
    }

    private static void past() {
        Edges.sentence(25, "Of the i-th TICK of the LOG (0 the latest), what 0 POINT, 1 GIVEN, 2 BEST, 3 TAKEN, 4 OUT, 5 SPILLED, 6 RATE, 7 BATTERY,"
            + " 8 ON (1, 0), 9 SCANNED (1, 0); -2: there are not so many; NONE: no such ones.");
        for (int n : new int[] {0, 1, 2, 99, 100, 101, 300}) {
            SunPoint s = Edges.after(STEADY, n);
            int there = Math.min(100, n);
            for (int what = 0; what < 10; what++) {
                Edges.holds("past(" + (there - 1) + ", " + what + ") of " + n, n == 0 || s.past(there - 1, what) >= 0);
                Edges.due("past(" + there + ", " + what + ") of " + n, s.past(there, what), -2);
                Edges.due("past(100, " + what + ") of " + n, s.past(100, what), -2);
                Edges.due("past(MAX, " + what + ") of " + n, s.past(Edges.MAX, what), -2);
                Edges.due("past(-1, " + what + ") of " + n, s.past(-1, what), -1);
                Edges.due("past(MIN, " + what + ") of " + n, s.past(Edges.MIN, what), -1);
            }
            for (int what : new int[] {-1, 10, 11, Edges.MIN, Edges.MAX}) {
                Edges.due("past(0, " + what + ") of " + n, s.past(0, what), -1);
                // NONE ahead of -2
                Edges.due("past(" + there + ", " + what + ") of " + n, s.past(there, what), -1);
                Edges.due("past(-1, " + what + ") of " + n, s.past(-1, what), -1);
            }
        }
    }

    private static void near() {
        Edges.sentence(26, "In how many TICKS of the LOG GIVEN times 100 was n 0 .. 100 times BEST or more; NONE: no such n.");
        // 192 is just half of 384.
        SunPoint s = went(20, 60, 4);
        int[][] want = {{0, 3}, {10, 3}, {11, 2}, {49, 2}, {50, 2}, {51, 1}, {99, 1}, {100, 1}};
        for (int[] w : want) {
            Edges.due("near(" + w[0] + ")", s.near(w[0]), w[1]);
        }
        for (int n : NO_PERCENT) {
            Edges.due("near(" + n + ")", s.near(n), -1);
            Edges.due("near(" + n + ") of a new one", new SunPoint().near(n), -1);
        }
        Edges.due("near(0) of a new one", new SunPoint().near(0), 0);
        Edges.due("near(100) of a new one", new SunPoint().near(100), 0);
        // Where BEST is 0, 0 is as much.
        s.light(0, 0);
        s.ticks(1);
        Edges.due("near(100) with 0 of 0", s.near(100), 2);
        Edges.due("near(0)", s.near(0), 4);
        // Only the latest 100.
        s.light(0, 100);
        s.settle(18, 4);
        s.ticks(98);
        Edges.due("near(100), the dark one is the 99th", s.near(100), 1);
        Edges.due("near(0)", s.near(0), 100);
        s.ticks(2);
        Edges.due("near(100)", s.near(100), 0);
    }

    private static void longestAway() {
        Edges.sentence(27, "The most TICKS of the LOG one behind another in each of which GIVEN times 100 was less than n 0 .. 100 times BEST;"
            + " NONE: no such n.");
        SunPoint s = went(4, 20, 20, 60, 4, 4, 20, 60, 20);
        int[][] want = {{0, 0}, {10, 0}, {11, 2}, {50, 2}, {51, 3}, {100, 3}};
        for (int[] w : want) {
            Edges.due("longestAway(" + w[0] + ")", s.longestAway(w[0]), w[1]);
        }
        for (int n : NO_PERCENT) {
            Edges.due("longestAway(" + n + ")", s.longestAway(n), -1);
            Edges.due("longestAway(" + n + ") of a new one", new SunPoint().longestAway(n), -1);
        }
        Edges.due("longestAway(100) of a new one", new SunPoint().longestAway(100), 0);
        // At the end of the LOG, at its beginning, and all of it.
        Edges.due("the latest", went(60, 4, 4).longestAway(100), 2);
        Edges.due("the oldest", went(4, 4, 60).longestAway(100), 2);
        SunPoint all = Edges.after(STEADY, 5);
        all.settle(18, 4);
        all.ticks(99);
        Edges.due("99 of 100", all.longestAway(100), 99);
        all.ticks(1);
        Edges.due("100 of 100", all.longestAway(100), 100);
        all.ticks(50);
        Edges.due("100 of 150", all.longestAway(100), 100);
        // 0 of 0 isn't less.
        SunPoint dark = went(4, 4);
        dark.light(0, 0);
        dark.ticks(1);
        dark.light(0, 100);
        dark.ticks(1);
        Edges.due("with one dark between", dark.longestAway(100), 2);
    }

    private static void ripple() {
        Edges.sentence(28, "Of the latest n 1 .. 100 TICKS of the LOG (those there are) the greatest POINT less the least; -2: there are none; NONE:"
            + " no such n.");
        SunPoint s = went(60, 4, 20, 8);
        int[] want = {0, 12, 16, 56, 56, 56};
        for (int n = 1; n <= 6; n++) {
            Edges.due("ripple(" + n + ")", s.ripple(n), want[n - 1]);
        }
        Edges.due("ripple(100)", s.ripple(100), 56);
        for (int n : NO_LATEST) {
            Edges.due("ripple(" + n + ")", s.ripple(n), -1);
            // NONE ahead of -2
            Edges.due("ripple(" + n + ") of a new one", new SunPoint().ripple(n), -1);
        }
        Edges.due("ripple(1) of a new one", new SunPoint().ripple(1), -2);
        Edges.due("ripple(100) of a new one", Edges.of(STEADY).ripple(100), -2);
        s.ticks(96);
        Edges.due("ripple(100)", s.ripple(100), 56);
        Edges.due("ripple(99)", s.ripple(99), 16);
        s.ticks(1);
        Edges.due("ripple(100), 60 is gone", s.ripple(100), 16);
    }

    private static void average() {
        Edges.sentence(29, "What was GIVEN in the latest n 1 .. 100 TICKS of the LOG (those there are) a TICK, downwards; -2: there are none; NONE:"
            + " no such n.");
        // 9, 192, 39, 384
        SunPoint s = went(60, 4, 20, 1);
        int[] want = {9, 100, 80, 156, 156, 156};
        for (int n = 1; n <= 6; n++) {
            Edges.due("average(" + n + ")", s.average(n), want[n - 1]);
        }
        Edges.due("average(100)", s.average(100), 156);
        for (int n : NO_LATEST) {
            Edges.due("average(" + n + ")", s.average(n), -1);
            Edges.due("average(" + n + ") of a new one", new SunPoint().average(n), -1);
        }
        Edges.due("average(1) of a new one", new SunPoint().average(1), -2);
        Edges.due("average(100) of a new one", Edges.of(STEADY).average(100), -2);
        // 2 and 1 by 2, downwards.
        SunPoint low = Edges.of(Edges.TWO + "way 2 50;");
        low.ticks(1);
        low.settle(18, 13);
        low.ticks(1);
        Edges.due("average(2) of 2 and 1", low.average(2), 1);
        s.settle(18, 4);
        s.ticks(99);
        // 9 and 99 times 39
        Edges.due("average(100)", s.average(100), (9 + 99 * 39) / 100);
        s.ticks(1);
        Edges.due("average(100)", s.average(100), 39);
    }

    private static void worst() {
        Edges.sentence(30, "How many TICKS ago (0 the latest) in the LOG BEST less GIVEN was greatest, the latest such one (what 0), that (1); -2: there"
            + " are none; NONE for another what.");
        SunPoint s = went(60, 4, 20, 4, 60, 8);
        Edges.due("worst(0), the latest of two", s.worst(0), 2);
        Edges.due("worst(1)", s.worst(1), 345);
        Edges.due("worst(0), the latest of all", went(60, 4).worst(0), 0);
        Edges.due("worst(0), the oldest", went(4, 20).worst(0), 1);
        Edges.due("worst(0), none is away", went(60, 60, 60).worst(0), 0);
        Edges.due("worst(1), none is away", went(60, 60, 60).worst(1), 0);
        for (int what : new int[] {-1, 2, 3, Edges.MIN, Edges.MAX}) {
            Edges.due("worst(" + what + ")", s.worst(what), -1);
            Edges.due("worst(" + what + ") of a new one", new SunPoint().worst(what), -1);
        }
        Edges.due("worst(0) of a new one", new SunPoint().worst(0), -2);
        Edges.due("worst(1) of a new one", Edges.of(STEADY).worst(1), -2);
        SunPoint long1 = went(4);
        long1.settle(18, 60);
        long1.ticks(99);
        Edges.due("worst(0), the 100th", long1.worst(0), 99);
        long1.ticks(1);
        Edges.due("worst(0), it is gone", long1.worst(0), 0);
        Edges.due("worst(1), it is gone", long1.worst(1), 0);
    }

    // ---------------------------------------------------------------- what comes

    private static SunPoint coming() {
        return Edges.of(Edges.TWO + "at 9 grid 0;at 2 light 1 7;at 9 tune 46000;at 2 light 0 8;at 9999 grid 1;");
    }

    private static void comes() {
        Edges.sentence(31, "What comes next at a told time (k 0 the next, and so on), what 0 its TICK, 1 what it is (0 light, 1 grid, 2 tune), 2 the"
            + " MODULE (-2: none), 3 the number; -2: there are not so many; NONE: no such ones.");
        SunPoint s = coming();
        int[][] want = {{2, 0, 1, 7}, {2, 0, 0, 8}, {9, 1, -2, 0}, {9, 2, -2, 46000}, {9999, 1, -2, 1}};
        for (int k = 0; k < 5; k++) {
            for (int what = 0; what < 4; what++) {
                Edges.due("comes(" + k + ", " + what + ")", s.comes(k, what), want[k][what]);
            }
        }
        for (int what = 0; what < 4; what++) {
            for (int k : new int[] {5, 6, 24, 25, Edges.MAX}) {
                Edges.due("comes(" + k + ", " + what + ")", s.comes(k, what), -2);
            }
            for (int k : new int[] {-1, Edges.MIN}) {
                Edges.due("comes(" + k + ", " + what + ")", s.comes(k, what), -1);
            }
            Edges.due("comes(0, " + what + ") of a new one", new SunPoint().comes(0, what), -2);
        }
        for (int what : new int[] {-1, 4, 5, Edges.MIN, Edges.MAX}) {
            Edges.due("comes(0, " + what + ")", s.comes(0, what), -1);
            // NONE ahead of -2
            Edges.due("comes(5, " + what + ")", s.comes(5, what), -1);
            Edges.due("comes(0, " + what + ") of a new one", new SunPoint().comes(0, what), -1);
        }
        // What came at this TICK comes no more.
        s.ticks(1);
        Edges.due("comes(0, 0) ahead of TICK 2", s.comes(0, 0), 2);
        s.ticks(1);
        Edges.due("comes(0, 0) behind TICK 2", s.comes(0, 0), 9);
        Edges.due("comes(3, 0) behind TICK 2", s.comes(3, 0), -2);
        // All 24 of one TICK, in the order of the text.
        StringBuilder all = new StringBuilder(Edges.ONE);
        for (int i = 0; i < 24; i++) {
            all.append("at 7 light 0 ").append(i * 4).append(';');
        }
        SunPoint full = Edges.of(all.toString());
        for (int k = 0; k < 24; k++) {
            Edges.due("comes(" + k + ", 3)", full.comes(k, 3), k * 4);
        }
        Edges.due("comes(24, 3)", full.comes(24, 3), -2);
        full.ticks(7);
        Edges.due("LIGHT by the last of them", full.module(0, 2), 92);
        Edges.due("count(1)", full.count(1), 0);
    }

    private static void cancel() {
        Edges.sentence(32, "What comes next at a told time (the k-th one) comes no more: how many are left; -2: there are not so many; NONE: k is"
            + " below 0.");
        for (int k = 0; k < 5; k++) {
            SunPoint s = coming();
            Edges.due("cancel(5)", s.cancel(5), -2);
            int[] ticks = {2, 2, 9, 9, 9999};
            int[] numbers = {7, 8, 0, 46000, 1};
            Edges.due("cancel(" + k + ")", s.cancel(k), 4);
            for (int i = 0; i < 4; i++) {
                Edges.due("comes(" + i + ", 0)", s.comes(i, 0), ticks[i < k ? i : i + 1]);
                Edges.due("comes(" + i + ", 3)", s.comes(i, 3), numbers[i < k ? i : i + 1]);
            }
            Edges.due("comes(4, 0)", s.comes(4, 0), -2);
            Edges.due("cancel(4)", s.cancel(4), -2);
            s.ticks(9);
            Edges.due("LIGHT of 1", s.module(1, 2), k == 0 ? 100 : 7);
            Edges.due("LIGHT of 0", s.module(0, 2), k == 1 ? 100 : 8);
            Edges.now(s, 12, k == 2 ? 1 : 0, k == 3 ? 50000 : 46000);
            Edges.due("count(1)", s.count(1), k == 4 ? 0 : 1);
            Edges.due("cancel(0)", s.cancel(0), k == 4 ? -2 : 0);
            Edges.due("cancel(0) of none", s.cancel(0), -2);
        }
        SunPoint s = coming();
        for (int k : new int[] {5, 6, Edges.MAX}) {
            Edges.due("cancel(" + k + ")", s.cancel(k), -2);
        }
        for (int k : new int[] {-1, -2, Edges.MIN}) {
            Edges.due("cancel(" + k + ")", s.cancel(k), -1);
            Edges.due("cancel(" + k + ") of a new one", new SunPoint().cancel(k), -1);
        }
        Edges.due("cancel(0) of a new one", new SunPoint().cancel(0), -2);
        Edges.due("count(1)", s.count(1), 5);
        // One by one, from the last on.
        for (int k = 4; k >= 0; k--) {
            Edges.due("cancel(" + k + ")", s.cancel(k), k);
        }
        Edges.due("cancel(0)", s.cancel(0), -2);
    }

    private static void count() {
        Edges.sentence(46, "NONE for another what.");
        SunPoint s = coming();
        s.feed(0, 0, 0, 0, 0);
        s.ticks(3);
        int[] want = {2, 3, 3, 20};
        for (int what = 0; what < 4; what++) {
            Edges.due("count(" + what + ")", s.count(what), want[what]);
            Edges.due("count(" + what + ") of a new one", new SunPoint().count(what), 0);
        }
        for (int what : new int[] {-1, 4, 5, Edges.MIN, Edges.MAX}) {
            Edges.due("count(" + what + ")", s.count(what), -1);
        }
    }

    // ---------------------------------------------------------------- all calls

    private static final String[] ASKING = {"fault", "told", "module", "volts", "power", "tops", "top", "best", "band", "climbed",
        "shadeOf", "lightFor", "darkest", "now", "sum", "past", "near", "longestAway", "ripple", "average", "worst", "comes",
        "ifTicks", "firstSeen", "firstFloat", "leastPush", "bestStep", "bestWay", "bestShare", "slope", "firstFull", "seenBy",
        "blind", "bestGap", "ifNear", "count"};

    /** States in each of which other things could be changed: in a SCAN, OFF, HELD, with bytes on the TAPE, what comes. */
    private static SunPoint busy(int ticks) {
        SunPoint s = Edges.after(Edges.ONE + "module 60 150;module 90 80;battery 2000 1500 30;stages 1390 1340 90 3 60;"
            + "inverter 60 2 40 4 90;follow 6 2 30 25 20;way 0 50;at 12 light 1 40;at 20 grid 0;at 30 grid 1;at 41 tune 54000;"
            + "at 45 grid 0;at 60 light 0 3;at 70 grid 1;at 71 light 0 90;", ticks);
        s.feed(0x6d6f6475, 0x6c652035, 0x20353b20, 0x20202020, 0x20202020);
        return s;
    }

    private static void askedChangesNothing() {
        Edges.sentence(0, "What is asked changes nothing.");
        for (int ticks : new int[] {0, 9, 24, 27, 46, 64, 130}) {
            SunPoint s = busy(ticks);
            SunPoint twin = busy(ticks);
            String was = Edges.picture(s);
            for (String name : ASKING) {
                for (int a : new int[] {Edges.MIN, -1, 0, 1, 2, 17, 40, 100, 200, 300, 50000, Edges.MAX}) {
                    for (int b : new int[] {Edges.MIN, -1, 0, 1, 2, 50, 100, 200}) {
                        if (!name.equals("module") || Edges.thrown(s, a, b) == 0) {
                            Calls.ofSun(s, name, a, b);
                        }
                    }
                }
                Edges.same("behind " + name, Edges.picture(s), was);
            }
            // Nor anything that shows only later.
            Edges.due("ticks(150)", s.ticks(150), twin.ticks(150));
            Edges.same("150 TICKS on", Edges.picture(s), Edges.picture(twin));
            Edges.due("text(12)", s.text(12), 1);
        }
    }

    private static void noneGoesFirst() {
        Edges.sentence(0, "Of several answers that hold NONE goes first, then -2;");
        SunPoint s = new SunPoint();
        Edges.due("top(0, 3)", s.top(0, 3), -1);
        Edges.due("top(-1, 0)", s.top(-1, 0), -1);
        Edges.due("band(0, 0)", s.band(0, 0), -1);
        Edges.due("band(5, 3)", s.band(5, 3), -1);
        Edges.due("lightFor(0, 5)", s.lightFor(0, 5), -1);
        Edges.due("past(0, 10)", s.past(0, 10), -1);
        Edges.due("ripple(0)", s.ripple(0), -1);
        Edges.due("average(101)", s.average(101), -1);
        Edges.due("worst(2)", s.worst(2), -1);
        Edges.due("comes(0, 4)", s.comes(0, 4), -1);
        Edges.due("cancel(-1)", s.cancel(-1), -1);
        Edges.due("firstSeen(5)", s.firstSeen(5), -1);
        Edges.due("firstFloat(5)", s.firstFloat(5), -1);
        Edges.due("firstFull(5)", s.firstFull(5), -1);
        Edges.due("leastPush(201)", s.leastPush(201), -1);
        Edges.due("seenBy(50000, 201)", s.seenBy(50000, 201), -1);
        Edges.due("seenBy(44999, 200)", s.seenBy(44999, 200), -1);
        // And -2 where only that holds.
        Edges.due("top(0, 0)", s.top(0, 0), -2);
        Edges.due("band(5, 0)", s.band(5, 0), -2);
        Edges.due("past(0, 0)", s.past(0, 0), -2);
        Edges.due("ripple(1)", s.ripple(1), -2);
        Edges.due("average(1)", s.average(1), -2);
        Edges.due("worst(0)", s.worst(0), -2);
        Edges.due("comes(0, 0)", s.comes(0, 0), -2);
        Edges.due("cancel(0)", s.cancel(0), -2);
        Edges.due("leastPush(1)", s.leastPush(1), -2);
        Edges.due("seenBy(50000, 1)", s.seenBy(50000, 1), -2);
        Edges.due("darkest()", s.darkest(), -2);
        Edges.due("bestShare()", s.bestShare(), -2);
        Edges.due("text(1)", s.text(1), -2);
    }

    private static void refusedChangesNothing() {
        Edges.sentence(0, "A call that is refused changes nothing.");
        for (int ticks : new int[] {0, 24, 27, 46, 130}) {
            SunPoint s = busy(ticks);
            SunPoint twin = busy(ticks);
            String was = Edges.picture(s);
            int coming = s.count(1);
            int[][] refused = {{s.ticks(0), -1}, {s.ticks(501), -1}, {s.ticks(-1), -1}, {s.light(3, 5), -1}, {s.light(-1, 5), -1},
                {s.light(0, 101), -1}, {s.light(0, -1), -1}, {s.grid(2), -1}, {s.grid(-1), -1}, {s.tune(44999), -1},
                {s.tune(55001), -1}, {s.settle(0, 5000), -1}, {s.settle(2, 1400), -1}, {s.settle(3, 1300), -1}, {s.settle(19, 1), -1},
                {s.settle(-1, 1), -1}, {s.settle(1, 1000), -1}, {s.settle(17, 3), -1}, {s.settle(12, 65), -1}, {s.settle(14, 9), -1},
                {s.cancel(-1), -1}, {s.cancel(coming), -2}, {s.cancel(Edges.MAX), -2}, {s.text(21), -2}, {s.text(-1), -2}};
            for (int i = 0; i < refused.length; i++) {
                Edges.due("refused call " + i, refused[i][0], refused[i][1]);
            }
            Edges.due("module(3, 0) throws", Edges.thrown(s, 3, 0), 1);
            Edges.due("module(0, 4) throws", Edges.thrown(s, 0, 4), 2);
            Edges.same("behind all of them", Edges.picture(s), was);
            Edges.due("ticks(150)", s.ticks(150), twin.ticks(150));
            Edges.same("150 TICKS on", Edges.picture(s), Edges.picture(twin));
        }
        SunPoint full = new SunPoint();
        for (int i = 0; i < 45; i++) {
            full.feed(0x20202020, 0x20202020, 0x20202020, 0x20202020, 0x20202020);
        }
        Edges.due("feed", full.feed(-1, -1, -1, -1, -1), -1);
        Edges.due("text(900)", full.text(900), 0);
        SunPoint late = Edges.after(STEADY, 9990);
        String was = Edges.picture(late);
        Edges.due("ticks(10)", late.ticks(10), -1);
        Edges.same("behind ticks(10)", Edges.picture(late), was);
    }
}
