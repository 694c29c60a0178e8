/** The boundary cases of what would be: promises 33 to 38 and 41 to 45. */
final class WouldEdges {
    private static final String STEADY = Edges.ONE + "way 2 60;";
    private static final int[] NO_TICKS = {0, -1, 301, 302, 500, Edges.MIN, Edges.MAX};
    private static final int[] NO_ISLAND_TICKS = {0, -1, 201, 202, 300, Edges.MIN, Edges.MAX};
    /** FOLLOWERS and LIGHTS of all kinds, each with what comes. */
    private static final String[] RUNS = {
        Edges.ONE + "module 60 150;module 90 80;battery 2000 1500 30;stages 1390 1340 90 3 60;inverter 60 2 40 4 90;"
            + "follow 6 2 30 25 20;way 0 50;at 12 light 1 40;at 20 grid 0;at 30 grid 1;at 41 tune 54000;at 45 grid 0;at 60 light 0 3;",
        "module 12 900;module 700 300;follow 9 1 70 0 30;way 1 44;at 5 light 1 30;at 9 light 1 100;at 33 light 0 0;",
        "module 999 999;follow 64 3 200 9 5;way 0 9;at 3 light 0 50;at 50 grid 0;", Edges.TWO, Edges.ONE, STEADY};

    private WouldEdges() {
    }

    static void all() {
        ifTicks();
        firstSeen();
        firstFloat();
        firstFull();
        leastPush();
        seenBy();
        blind();
        bestStep();
        bestWay();
        bestGap();
        ifNear();
    }

    // ---------------------------------------------------------------- TICKS done

    private static void ifTicks() {
        Edges.sentence(33, "Were n 1 .. 300 TICKS done (beyond 9999, too), what 0 GIVEN together, 1 TAKEN, 2 OUT, 3 SPILLED, 4 CHARGE then, 5 BATTERY"
            + " then, 6 ISLANDS SEEN in them, 7 POINT then; NONE: no such ones, no MODULES.");
        for (String run : RUNS) {
            for (int n : new int[] {1, 2, 21, 47, 299, 300}) {
                SunPoint s = Edges.after(run, 7);
                SunPoint done = Edges.after(run, 7);
                done.ticks(n);
                long[] want = {done.sum(0) - s.sum(0), done.sum(2) - s.sum(2), done.sum(3) - s.sum(3), done.sum(4) - s.sum(4), done.now(8),
                    done.now(9), done.sum(6) - s.sum(6), done.now(1)};
                for (int what = 0; what < 8; what++) {
                    Edges.due("ifTicks(" + n + ", " + what + ")", s.ifTicks(n, what), want[what]);
                }
                Edges.now(s, 0, 7);
            }
        }
        // From whatever state: in a SCAN, HELD, with BAD, OFF and waiting.
        String busy = STEADY + "battery 1000 900 1;stages 1400 1300 99 5 0;inverter 60 4 9 6 90;follow 4 3 100 30 0;"
            + "at 10 tune 54000;at 10 grid 0;at 16 grid 1;at 30 grid 0;at 32 grid 1;at 33 grid 0;at 50 grid 1;";
        for (int gone = 0; gone <= 60; gone++) {
            for (int n = 1; n <= 8; n++) {
                SunPoint s = Edges.after(busy, gone);
                SunPoint done = Edges.after(busy, gone + n);
                long[] want = {done.sum(0) - s.sum(0), done.sum(2) - s.sum(2), done.sum(3) - s.sum(3), done.sum(4) - s.sum(4), done.now(8),
                    done.now(9), done.sum(6) - s.sum(6), done.now(1)};
                for (int what = 0; what < 8; what++) {
                    Edges.due("ifTicks(" + n + ", " + what + ") from TICK " + gone, s.ifTicks(n, what), want[what]);
                }
            }
        }
        SunPoint s = Edges.of(STEADY);
        SunPoint none = new SunPoint();
        for (int what = 0; what < 8; what++) {
            for (int n : NO_TICKS) {
                Edges.due("ifTicks(" + n + ", " + what + ")", s.ifTicks(n, what), -1);
            }
            Edges.due("ifTicks(1, " + what + ") without MODULES", none.ifTicks(1, what), -1);
            Edges.due("ifTicks(300, " + what + ") without MODULES", none.ifTicks(300, what), -1);
        }
        for (int what : new int[] {-1, 8, 9, Edges.MIN, Edges.MAX}) {
            Edges.due("ifTicks(1, " + what + ")", s.ifTicks(1, what), -1);
            Edges.due("ifTicks(300, " + what + ")", s.ifTicks(300, what), -1);
        }
        // At 9999 no TICK can be done, yet these are asked for; what is told for 9999 comes when its TICK comes.
        for (int tick : new int[] {9998, 9999}) {
            SunPoint late = Edges.after(STEADY + "at 9999 light 0 50;", tick);
            Edges.due("ifTicks(1, 0) at " + tick, late.ifTicks(1, 0), 192);
            Edges.due("ifTicks(300, 0) at " + tick, late.ifTicks(300, 0), 300 * 192);
            Edges.now(late, 0, tick);
        }
    }

    private static void notInThese(String name, SunPoint s) {
        for (int n : NO_TICKS) {
            Edges.due(name + "(" + n + ")", Calls.ofSun(s, name, n, 0), -1);
            Edges.due(name + "(" + n + ") without MODULES", Calls.ofSun(new SunPoint(), name, n, 0), -1);
        }
        Edges.due(name + "(1) without MODULES", Calls.ofSun(new SunPoint(), name, 1, 0), -1);
        Edges.due(name + "(300) without MODULES", Calls.ofSun(new SunPoint(), name, 300, 0), -1);
        Edges.due(name + "(300) of an empty TEXT", Calls.ofSun(Edges.of(""), name, 300, 0), -1);
    }

    private static void firstSeen() {
        Edges.sentence(34, "In which of n 1 .. 300 TICKS (1 the first) an ISLAND would be SEEN first; -2: in none; NONE: no such n, no MODULES.");
        SunPoint s = Edges.of(STEADY + "inverter 10 1 100 3 9;at 300 grid 0;");
        Edges.due("firstSeen(300)", s.firstSeen(300), 300);
        Edges.due("firstSeen(299)", s.firstSeen(299), -2);
        s.ticks(298);
        Edges.due("firstSeen(1)", s.firstSeen(1), -2);
        Edges.due("firstSeen(2)", s.firstSeen(2), 2);
        s.ticks(1);
        Edges.due("firstSeen(1)", s.firstSeen(1), 1);
        s.ticks(1);
        Edges.due("firstSeen(300), OFF", s.firstSeen(300), -2);
        SunPoint later = Edges.of(STEADY + "inverter 10 1 100 3 9;at 301 grid 0;");
        Edges.due("firstSeen(300)", later.firstSeen(300), -2);
        // The first of two.
        SunPoint two = Edges.of(STEADY + "inverter 10 1 100 1 9;at 4 grid 0;at 5 grid 1;at 9 grid 0;");
        Edges.due("firstSeen(300)", two.firstSeen(300), 4);
        two.ticks(4);
        Edges.due("firstSeen(300)", two.firstSeen(300), 5);
        // One that was SEEN in a TICK that is done doesn't count.
        two.ticks(5);
        Edges.due("sum(6)", two.sum(6), 2);
        Edges.due("firstSeen(300)", two.firstSeen(300), -2);
        // Beyond 9999 is asked for, as in ifTicks().
        SunPoint late = Edges.after(STEADY + "inverter 10 1 100 3 9;at 9999 grid 0;", 9998);
        Edges.due("firstSeen(300) at 9998", late.firstSeen(300), 1);
        notInThese("firstSeen", s);
    }

    private static void firstFloat() {
        Edges.sentence(35, "In which of n 1 .. 300 TICKS the BATTERY would be in FLOAT first behind it; -2: in none; NONE: likewise.");
        // 192 in each of 100 TICKS up to CAP, HELD for 200 then.
        String slow = Edges.ONE + "way 2 20;stages 2000 1350 80 200 0;battery 99999 ";
        SunPoint s = Edges.of(slow + "80799 0;");
        Edges.due("firstFloat(300)", s.firstFloat(300), 300);
        Edges.due("firstFloat(299)", s.firstFloat(299), -2);
        Edges.due("firstFloat(300), a TICK later", Edges.of(slow + "80798 0;").firstFloat(300), -2);
        s.ticks(299);
        Edges.now(s, 9, 1, 199);
        Edges.due("firstFloat(1)", s.firstFloat(1), 1);
        s.ticks(1);
        Edges.now(s, 9, 2);
        // In FLOAT already, and still behind the next TICK; in BULK behind it.
        Edges.due("firstFloat(1), in FLOAT", s.firstFloat(1), 1);
        s.settle(4, 100);
        s.settle(1, 999);
        Edges.due("firstFloat(1), FLOAT ends", s.firstFloat(1), -2);
        Edges.due("firstFloat(300), it doesn't come back", s.firstFloat(300), -2);
        notInThese("firstFloat", s);
    }

    private static void firstFull() {
        Edges.sentence(41, "In which of n 1 .. 300 TICKS CHARGE would be CAP first behind it; -2: in none; NONE: no such n, no MODULES.");
        // 192 in each of 300 TICKS are 57600.
        String slow = Edges.ONE + "way 2 20;stages 2000 1350 80 200 0;battery 99999 ";
        SunPoint s = Edges.of(slow + "42399 0;");
        Edges.due("firstFull(300)", s.firstFull(300), 300);
        Edges.due("firstFull(299)", s.firstFull(299), -2);
        Edges.due("firstFull(300), 1 less", Edges.of(slow + "42398 0;").firstFull(300), -2);
        s.ticks(299);
        Edges.due("firstFull(1)", s.firstFull(1), 1);
        s.ticks(1);
        Edges.due("firstFull(1), full already", s.firstFull(1), 1);
        // What DRAIN takes is more than what is GIVEN.
        s.settle(1, 193);
        Edges.due("firstFull(300), drained", s.firstFull(300), -2);
        s.settle(1, 192);
        Edges.due("firstFull(1), as much", s.firstFull(1), 1);
        notInThese("firstFull", s);
    }

    // ---------------------------------------------------------------- ISLANDS

    /** In which of n TICKS an ISLAND is SEEN by an object that is new but for this. */
    private static int island(int window, int trip, int push, int tune, int n) {
        SunPoint s = Edges.of("module 1 9;inverter " + window + " " + trip + " " + push + " 99 1;");
        s.grid(0);
        s.tune(tune);
        return s.firstSeen(n);
    }

    private static void leastPush() {
        Edges.sentence(36, "The least PUSH 0 .. 1000 by which in n 1 .. 200 TICKS an ISLAND would be SEEN, were the INVERTER ON, GRID 0 in all of them,"
            + " RATE, BAD, TUNE as they are and stay; -2: by none; NONE: no such n.");
        for (int[] w : new int[][] {{1, 1}, {500, 3}, {998, 1}, {999, 1}, {1000, 1}, {2000, 20}, {5000, 2}, {5000, 20}}) {
            for (int n : new int[] {1, 2, 3, 20, 199, 200}) {
                for (int tune : new int[] {50000, 50007, 45000, 55000, 54000}) {
                    SunPoint s = Edges.of("module 1 9;inverter " + w[0] + " " + w[1] + " 77 99 1;");
                    s.tune(tune);
                    int push = s.leastPush(n);
                    String call = "leastPush(" + n + ") by WINDOW " + w[0] + ", TRIP " + w[1] + ", TUNE " + tune;
                    if (push == -2) {
                        for (int none = 0; none <= 1000; none += 125) {
                            Edges.due(call + ", PUSH " + none, island(w[0], w[1], none, tune, n), -2);
                        }
                    } else {
                        Edges.holds(call + " is " + push, push >= 0 && push <= 1000);
                        Edges.holds(call + ", by it", island(w[0], w[1], push, tune, n) > 0);
                        Edges.holds(call + ", by less", push == 0 || island(w[0], w[1], push - 1, tune, n) == -2);
                    }
                }
            }
        }
        SunPoint edge = new SunPoint();
        edge.settle(8, 1);
        edge.settle(7, 999);
        Edges.due("leastPush(1), the greatest", edge.leastPush(1), 1000);
        edge.settle(7, 1000);
        Edges.due("leastPush(1), by none", edge.leastPush(1), -2);
        edge.tune(50008);
        Edges.due("leastPush(1), 1 by TUNE", edge.leastPush(1), 1000);
        edge.tune(55000);
        edge.settle(7, 624);
        Edges.due("leastPush(1), the least", edge.leastPush(1), 0);
        edge.settle(7, 625);
        Edges.due("leastPush(1)", edge.leastPush(1), 1);
        for (int n : NO_ISLAND_TICKS) {
            Edges.due("leastPush(" + n + ")", edge.leastPush(n), -1);
        }
        // TUNE stays, GRID is 0 in all of them: what comes at told times doesn't.
        SunPoint told = Edges.of(Edges.ONE + "inverter 500 1 0 9 9;at 1 tune 55000;at 2 tune 45000;at 1 grid 1;");
        Edges.due("leastPush(1)", told.leastPush(1), 501);
        // 50267 less 33 and 267 more are 50501.
        Edges.due("leastPush(2)", told.leastPush(2), 267);
        // RATE and BAD as they are: 50101 and 1, then 50190 and OFF.
        SunPoint r = Edges.of(Edges.ONE + "inverter 100 2 101 3 150;at 1 grid 0;");
        r.ticks(1);
        Edges.now(r, 14, 50101, 0, 1);
        Edges.due("leastPush(1)", r.leastPush(1), 12);
        r.grid(1);
        Edges.due("leastPush(1) with GRID", r.leastPush(1), 12);
        r.grid(0);
        r.ticks(1);
        Edges.now(r, 14, 50190, 0, 0);
        Edges.now(r, 11, 0);
        Edges.due("leastPush(1), OFF, BAD 0", r.leastPush(1), -2);
        Edges.due("leastPush(2), OFF", r.leastPush(2), 0);
    }

    private static void seenBy() {
        Edges.sentence(42, "In which of n 1 .. 200 TICKS an ISLAND would be SEEN first, were the INVERTER ON, GRID 0, TUNE v (45000 .. 55000) in all of"
            + " them, RATE, BAD as they are; -2: in none; NONE: no such ones.");
        for (int[] w : new int[][] {{1, 1, 0}, {500, 3, 50}, {3000, 20, 300}, {4992, 1, 0}, {4993, 1, 0}}) {
            SunPoint s = Edges.of("module 1 9;inverter " + w[0] + " " + w[1] + " " + w[2] + " 99 1;at 1 tune 50000;at 1 grid 1;");
            for (int v : new int[] {45000, 45001, 49992, 49993, 50000, 50007, 50008, 53333, 54999, 55000}) {
                for (int n : new int[] {1, 2, 3, 19, 20, 21, 199, 200}) {
                    Edges.due("seenBy(" + v + ", " + n + ") by WINDOW " + w[0], s.seenBy(v, n), island(w[0], w[1], w[2], v, n));
                }
            }
        }
        SunPoint s = new SunPoint();
        Edges.due("seenBy(55000, 3)", s.seenBy(55000, 3), 3);
        Edges.due("seenBy(55000, 2)", s.seenBy(55000, 2), -2);
        Edges.due("seenBy(50000, 200)", s.seenBy(50000, 200), -2);
        for (int v : new int[] {44999, 55001, 0, -1, Edges.MIN, Edges.MAX}) {
            for (int n : new int[] {1, 200, 0, 201}) {
                Edges.due("seenBy(" + v + ", " + n + ")", s.seenBy(v, n), -1);
            }
        }
        for (int n : NO_ISLAND_TICKS) {
            Edges.due("seenBy(45000, " + n + ")", s.seenBy(45000, n), -1);
            Edges.due("seenBy(55000, " + n + ")", s.seenBy(55000, n), -1);
        }
        // RATE and BAD as they are, GRID and ON or OFF are not asked for.
        SunPoint r = Edges.of(Edges.ONE + "inverter 100 2 101 3 150;at 1 grid 0;");
        r.ticks(1);
        Edges.due("seenBy(50000, 1), BAD 1", r.seenBy(50000, 1), 1);
        r.grid(1);
        Edges.due("seenBy(50000, 1) with GRID", r.seenBy(50000, 1), 1);
        // 50101 less 638 is 49463, less 101; that is farther than 100, too.
        Edges.due("seenBy(45000, 1)", r.seenBy(45000, 1), 1);
        r.ticks(1);
        Edges.now(r, 16, 0);
        Edges.due("seenBy(50000, 2), 50101 isn't there any more", r.seenBy(50000, 2), 2);
        Edges.due("seenBy(50000, 1)", r.seenBy(50000, 1), -2);
    }

    private static void blind() {
        Edges.sentence(43, "By how many TUNES 45000, 45100, .. 55000 it would be SEEN in none of these; NONE: no such n.");
        // PUSH 0, TRIP 1: 5000 by 8 is 625, 4900 by 8 612; and in the end RATE is 7 off, 54993.
        int[][] want = {{625, 1, 101}, {624, 1, 99}, {612, 1, 99}, {611, 1, 97}, {4993, 200, 101}, {4992, 200, 99}, {4893, 200, 99},
            {4892, 200, 97}, {1, 200, 1}};
        for (int[] w : want) {
            SunPoint s = Edges.of(Edges.ONE + "inverter " + w[0] + " 1 0 9 9;");
            Edges.due("blind(" + w[1] + ") by WINDOW " + w[0], s.blind(w[1]), w[2]);
        }
        SunPoint s = new SunPoint();
        Edges.due("blind(1)", s.blind(1), 101);
        Edges.due("blind(2)", s.blind(2), 101);
        Edges.due("blind(3)", s.blind(3), 73);
        s.settle(9, 1000);
        Edges.due("blind(200), PUSH 1000", s.blind(200), 0);
        for (int n : NO_ISLAND_TICKS) {
            Edges.due("blind(" + n + ")", s.blind(n), -1);
        }
        for (int[] w : new int[][] {{500, 3, 50}, {3000, 20, 300}, {20, 2, 0}}) {
            SunPoint some = Edges.of(Edges.ONE + "inverter " + w[0] + " " + w[1] + " " + w[2] + " 9 9;");
            for (int n : new int[] {1, 2, 3, 20, 199, 200}) {
                int blind = 0;
                for (int v = 45000; v <= 55000; v += 100) {
                    blind += some.seenBy(v, n) == -2 ? 1 : 0;
                }
                Edges.due("blind(" + n + ") by WINDOW " + w[0], some.blind(n), blind);
            }
        }
    }

    // ---------------------------------------------------------------- the best

    private static void bestStep() {
        Edges.sentence(37, "The STEP 1, 2, 4, .. 64 (as if told so, and STEP so now) by which in n 1 .. 300 TICKS the most would be GIVEN, the least such"
            + " one; NONE: no such n, no MODULES.");
        for (String run : RUNS) {
            for (int n : new int[] {1, 2, 30, 299, 300}) {
                int best = 0;
                int most = -1;
                for (int step = 1; step <= 64; step *= 2) {
                    // STEP now is as told only in a new object.
                    String text = run.contains("follow") ? run.replaceAll("follow \\d+", "follow " + step) : run + "follow " + step + " 3 50 0 0;";
                    int given = Edges.of(text).ifTicks(n, 0);
                    best = given > most ? step : best;
                    most = Math.max(most, given);
                }
                Edges.due("bestStep(" + n + ") of \"" + run + "\"", Edges.of(run).bestStep(n), best);
            }
        }
        Edges.due("bestStep(1), the greatest", Edges.of(Edges.ONE).bestStep(1), 64);
        // All of them are alike.
        Edges.due("bestStep(300) by SHARE", Edges.of(STEADY).bestStep(300), 1);
        Edges.due("bestStep(300) without POWER", Edges.of("module 1 9;").bestStep(300), 1);
        // STEP now is told so, too: 68 is the POINT, and it goes down by 8.
        SunPoint now = Edges.after(Edges.ONE, 8);
        Edges.due("bestStep(1), 8 down from 68 is best", now.bestStep(1), 8);
        Edges.now(now, 3, 8);
        Edges.due("told(12)", now.told(12), 4);
        // As if told so: where a SCAN ends STEP is that.
        SunPoint scan = Edges.of(Edges.ONE);
        scan.scan();
        Edges.due("bestStep(22), 8 up from 50 is best", scan.bestStep(22), 8);
        notInThese("bestStep", now);
    }

    private static void bestWay() {
        Edges.sentence(38, "The WAY by which in n 1 .. 300 TICKS the most would be GIVEN, the least such one; NONE: no such n, no MODULES.");
        for (String run : RUNS) {
            for (int n : new int[] {1, 2, 30, 299, 300}) {
                int best = 0;
                int most = -1;
                for (int way = 0; way <= 2; way++) {
                    SunPoint tried = Edges.after(run, 5);
                    tried.settle(17, way);
                    int given = tried.ifTicks(n, 0);
                    best = given > most ? way : best;
                    most = Math.max(most, given);
                }
                Edges.due("bestWay(" + n + ") of \"" + run + "\"", Edges.after(run, 5).bestWay(n), best);
            }
        }
        Edges.due("bestWay(1), SHARE", Edges.of(Edges.ONE + "way 0 60;").bestWay(1), 2);
        Edges.due("bestWay(60), SLOPE", Edges.of(Edges.ONE + "way 0 1;").bestWay(60), 1);
        // CLIMB and SLOPE are alike, then all three are.
        Edges.due("bestWay(1), CLIMB", Edges.of(Edges.ONE + "way 1 1;").bestWay(1), 0);
        Edges.due("bestWay(300) without POWER", Edges.of("module 1 9;way 2 50;").bestWay(300), 0);
        notInThese("bestWay", Edges.of(Edges.ONE));
    }

    private static void bestGap() {
        Edges.sentence(44, "The GAP 10, 20, .. 200 by which, did a SCAN begin now (anew, if there is one), in n 1 .. 300 TICKS the most would be GIVEN, the"
            + " least such one; NONE: likewise.");
        for (String run : RUNS) {
            for (int n : new int[] {1, 2, 30, 299, 300}) {
                int best = 0;
                int most = -1;
                for (int gap = 10; gap <= 200; gap += 10) {
                    SunPoint tried = Edges.of(run);
                    tried.settle(14, gap);
                    tried.scan();
                    int given = tried.ifTicks(n, 0);
                    best = given > most ? gap : best;
                    most = Math.max(most, given);
                }
                Edges.due("bestGap(" + n + ") of \"" + run + "\"", Edges.of(run).bestGap(n), best);
            }
        }
        Edges.due("bestGap(1), all alike", Edges.of(Edges.ONE).bestGap(1), 10);
        Edges.due("bestGap(300) without POWER", Edges.of("module 1 9;").bestGap(300), 10);
        // The second POINT of the SCAN: 60 is best of ONE, 200 of LIT 347.
        Edges.due("bestGap(2)", Edges.of(Edges.ONE).bestGap(2), 60);
        Edges.due("bestGap(2), the greatest", Edges.of("module 347 999;").bestGap(2), 200);
        // Anew, wherever in a SCAN it is; what one has met so far counts no more.
        for (String run : new String[] {Edges.ONE, Edges.TWO, "module 400 90;module 90 200;follow 4 3 130 0 0;"}) {
            for (int gone : new int[] {0, 1, 2, 5, 7}) {
                SunPoint scanning = Edges.after(run, 3);
                scanning.scan();
                if (gone > 0) {
                    scanning.ticks(gone);
                }
                Edges.now(scanning, 6, 1);
                for (int n : new int[] {1, 2, 3, 8, 60, 300}) {
                    Edges.due("bestGap(" + n + "), " + gone + " in a SCAN", scanning.bestGap(n), Edges.after(run, 3).bestGap(n));
                }
                Edges.now(scanning, 6, 1);
                Edges.due("told(14)", scanning.told(14), run.contains("130") ? 130 : 50);
            }
        }
        // In a SCAN by 130 it met POWER where LIGHT was; the SCAN anew meets none.
        SunPoint met = Edges.of(Edges.ONE + "at 4 light 0 0;");
        met.scan();
        met.ticks(3);
        Edges.due("bestGap(300), dark from now on", met.bestGap(300), 10);
        notInThese("bestGap", met);
    }

    private static void ifNear() {
        Edges.sentence(45, "How many TICKS of n 1 .. 300 there would be with GIVEN times 100 at least b 0 .. 100 times BEST; NONE: no such ones, no MODULES.");
        for (String run : RUNS) {
            for (int n : new int[] {1, 2, 30, 100}) {
                SunPoint s = Edges.of(run);
                SunPoint done = Edges.after(run, n);
                for (int b : new int[] {0, 1, 50, 99, 100}) {
                    Edges.due("ifNear(" + n + ", " + b + ")", s.ifNear(n, b), done.near(b));
                }
            }
        }
        SunPoint s = Edges.of(STEADY);
        Edges.due("ifNear(1, 100)", s.ifNear(1, 100), 1);
        Edges.due("ifNear(300, 100)", s.ifNear(300, 100), 300);
        Edges.due("ifNear(300, 0)", s.ifNear(300, 0), 300);
        // 192 of 384 is just a half.
        SunPoint half = Edges.of(Edges.ONE + "way 2 20;");
        Edges.due("ifNear(300, 50)", half.ifNear(300, 50), 300);
        Edges.due("ifNear(300, 51)", half.ifNear(300, 51), 0);
        // 0 of 0 is as much; BEST as LIGHT is in each of them.
        SunPoint dark = Edges.of(Edges.ONE + "way 2 20;at 101 light 0 0;");
        Edges.due("ifNear(300, 100)", dark.ifNear(300, 100), 200);
        for (int n : NO_TICKS) {
            Edges.due("ifNear(" + n + ", 50)", s.ifNear(n, 50), -1);
        }
        for (int b : new int[] {-1, 101, 102, Edges.MIN, Edges.MAX}) {
            Edges.due("ifNear(1, " + b + ")", s.ifNear(1, b), -1);
            Edges.due("ifNear(300, " + b + ")", s.ifNear(300, b), -1);
        }
        for (int n : new int[] {0, 1, 300, 301}) {
            Edges.due("ifNear(" + n + ", 0) without MODULES", new SunPoint().ifNear(n, 0), -1);
            Edges.due("ifNear(" + n + ", 100) without MODULES", new SunPoint().ifNear(n, 100), -1);
        }
    }
}
