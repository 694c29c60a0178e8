/** The boundary cases of the TICK (the FOLLOWER, the BATTERY, the INVERTER), and promises 5 to 11. */
final class TickEdges {
    /** Always at the best POINT: 384 is GIVEN in each TICK. */
    private static final String STEADY = Edges.ONE + "way 2 60;";
    /** POWER is POINT by 10 from about 709 on to 947 (1 VOLT), 0 beyond. */
    private static final String WIDE = "module 999 10;";

    private TickEdges() {
    }

    static void all() {
        tick();
        scans();
        ways();
        slopes();
        climbs();
        scansBegin();
        charge();
        stages();
        rate();
        island();
        out();
        ticks();
        light();
        grid();
        tune();
        scan();
        told();
        settle();
    }

    /** STEADY with a battery that takes nothing: all goes on to the INVERTER. */
    private static SunPoint full(String inverter) {
        return Edges.of(STEADY + "battery 1000 1000 0;" + inverter);
    }

    private static void due(SunPoint s, int ticks, int given) {
        Edges.due("ticks(" + ticks + ")", s.ticks(ticks), given);
    }

    // ---------------------------------------------------------------- (a), (b)

    private static void tick() {
        Edges.sentence(0, "A TICK, TICK (0 at first) is 1 more:");
        SunPoint s = Edges.of(Edges.ONE);
        Edges.now(s, 0, 0);
        s.ticks(1);
        Edges.now(s, 0, 1);
        s.ticks(499);
        Edges.now(s, 0, 500);

        Edges.sentence(0, "(a) what comes at this TICK (as told, in the order of the text).");
        SunPoint c = Edges.of(STEADY + "at 3 light 0 7;at 2 grid 0;at 3 light 0 0;at 3 tune 45000;at 3 light 0 50;at 2 grid 1;at 1 tune 55000;");
        c.ticks(1);
        Edges.now(c, 12, 1, 55000);
        c.ticks(1);
        Edges.now(c, 12, 1, 55000);
        Edges.due("LIGHT ahead of TICK 3", c.module(0, 2), 100);
        // 60 times 50 by 100 is 30, where 50 of 100 AMPS have 64 VOLTS: it comes ahead of the FOLLOWER.
        due(c, 1, 192);
        Edges.due("LIGHT", c.module(0, 2), 50);
        Edges.now(c, 12, 1, 45000);
        c.light(0, 100);
        due(c, 1, 384);
        SunPoint last = Edges.after(STEADY + "at 9999 light 0 0;at 9998 grid 0;", 9997);
        Edges.due("count(1)", last.count(1), 2);
        due(last, 1, 384);
        Edges.now(last, 12, 0);
        due(last, 1, 0);
        Edges.due("count(1)", last.count(1), 0);
        SunPoint first = Edges.of(STEADY + "at 1 light 0 0;");
        due(first, 1, 0);

        Edges.sentence(0, "(b) THE FOLLOWER (at first at POINT 0, its DIRECTION up, STEP as told, STREAK 0, LAST 0, no SCAN, SINCE 0).");
        Edges.now(new SunPoint(), 1, 0, 1, 4, 0, 0, 0, 0);
        Edges.now(Edges.of(Edges.ONE), 1, 0, 1, 4, 0, 0, 0, 0);
        Edges.now(Edges.of(Edges.ONE + "follow 64 3 50 0 0;"), 1, 0, 1, 64, 0, 0, 0, 0);
        Edges.now(Edges.of(Edges.ONE + "follow 1 3 50 1 100;"), 1, 0, 1, 1, 0, 0, 0, 0);

        Edges.sentence(0, "GIVEN is always POWER at the POINT to which it goes.");
        // Not at the one from which it came: 4 has 39, 8 has 79.
        SunPoint given = Edges.of(Edges.ONE);
        due(given, 1, 39);
        due(given, 1, 79);
    }

    private static void scans() {
        Edges.sentence(0, "In a SCAN it goes to 0 first, then GAP farther each TICK, as long as that is 999 or less; that is all (b) of such"
            + " a TICK.");
        int[][] gaps = {{10, 990}, {37, 999}, {50, 950}, {111, 999}, {199, 995}, {200, 800}, {27, 999}, {143, 858}};
        for (int[] gap : gaps) {
            SunPoint s = Edges.after(Edges.ONE + "follow 5 3 " + gap[0] + " 2 0;", 2);
            Edges.now(s, 1, 10, 1, 5, 2, 99, 1, 2);
            for (int x = 0; x <= gap[1]; x += gap[0]) {
                s.ticks(1);
                // Neither LAST nor SINCE, nor STEP, STREAK, DIRECTION.
                Edges.now(s, 1, x, 1, 5, 2, 99, 1, 2);
                Edges.row(s, x, s.power(x));
                Edges.due("SCANNED", s.past(0, 9), 1);
            }
            s.ticks(1);
            Edges.now(s, 6, 0, 0);
            Edges.due("SCANNED, it ends", s.past(0, 9), 1);
            Edges.due("sum(7)", s.sum(7), 1);
        }

        Edges.sentence(0, "In the TICK in which it isn't any more, the SCAN ends: it goes to that POINT of the SCAN where most was GIVEN, the"
            + " first; STEP is as told, STREAK 0, DIRECTION up, SINCE 0, LAST is GIVEN.");
        // 8 VOLTS: at 50 and at 60 there is 30; the first.
        SunPoint f = Edges.of("module 100 8;follow 4 3 10 0 0;");
        f.scan();
        f.ticks(101);
        Edges.now(f, 1, 50, 1, 4, 0, 30, 0, 0);
        // All was 0: the first POINT is 0.
        SunPoint dark = Edges.after("module 1 999;follow 7 3 200 0 0;", 3);
        dark.scan();
        dark.ticks(6);
        Edges.now(dark, 1, 0, 1, 7, 0, 0, 0, 0);
        // DIRECTION was down, STREAK 1 and STEP 8.
        SunPoint back = Edges.after(Edges.ONE, 9);
        Edges.now(back, 1, 60, -1, 8, 1, 384, 0, 9);
        back.settle(12, 9);
        back.scan();
        back.ticks(21);
        Edges.now(back, 1, 50, 1, 9, 0, 375, 0, 0);
        // By what was GIVEN then: LIGHT is another when the SCAN ends.
        SunPoint then = Edges.of(Edges.ONE + "follow 5 3 20 0 0;at 4 light 0 30;");
        then.scan();
        then.ticks(50);
        // At 40 there was 336 (40 times 84), and is nothing now.
        Edges.now(then, 1, 980);
        due(then, 1, 0);
        Edges.now(then, 1, 40, 1, 5, 0, 0, 0, 0);
        // The best POINT may be the last one of the SCAN; an earlier SCAN counts no more.
        SunPoint high = Edges.of("module 999 999;follow 4 3 200 0 0;at 1 light 0 0;at 5 light 0 100;");
        high.scan();
        high.ticks(6);
        Edges.now(high, 1, 800, 1, 4, 0, high.power(800), 0, 0);
        Edges.holds("there is POWER at 800", high.power(800) > 0);
        high.light(0, 0);
        high.scan();
        high.ticks(6);
        Edges.now(high, 1, 0, 1, 4, 0, 0, 0, 0);
    }

    private static void ways() {
        Edges.sentence(0, "WAY 2, SHARE: it goes to SHARE times the greatest LIT by 100 (STEP, STREAK, DIRECTION stay).");
        int[][] shares = {{999, 1, 9}, {999, 99, 989}, {100, 1, 1}, {99, 1, 0}, {99, 99, 98}, {1, 99, 0}, {2, 50, 1}, {2, 49, 0}};
        for (int[] share : shares) {
            SunPoint s = Edges.after("module " + share[0] + " 500;way 2 " + share[1] + ";", 1);
            Edges.now(s, 1, share[2], 1, 4, 0, s.power(share[2]), 0, 1);
        }
        SunPoint greatest = Edges.after("module 50 9;module 90 9;module 70 9;way 2 99;", 1);
        Edges.now(greatest, 1, 89);
        greatest.light(1, 0);
        greatest.ticks(1);
        Edges.now(greatest, 1, 69);
        greatest.light(2, 0);
        greatest.light(0, 0);
        greatest.ticks(1);
        Edges.now(greatest, 1, 0, 1, 4, 0, 0);
        // STEP 8, STREAK 1, DIRECTION down from CLIMB stay.
        SunPoint s = Edges.after(Edges.ONE, 9);
        s.settle(17, 2);
        s.settle(18, 60);
        s.ticks(5);
        Edges.now(s, 1, 60, -1, 8, 1, 384, 0, 14);
        s.light(0, 0);
        s.ticks(1);
        Edges.now(s, 1, 0, -1, 8, 1, 0, 0, 15);
    }

    private static void slopes() {
        Edges.sentence(0, "WAY 1, SLOPE: is POWER 1 farther up or 1 farther down (within 0 .. 999) more than at its POINT: towards the greater"
            + " one of both (of like ones down) it goes STEP, to 0, 999 at most;");
        // At 4 there is 2, 3 on both sides: down, and not below 0.
        SunPoint like = Edges.of(Edges.TWO + "follow 64 9 50 0 0;way 2 50;");
        like.ticks(1);
        Edges.now(like, 1, 4);
        like.settle(17, 1);
        like.ticks(1);
        Edges.now(like, 1, 0, -1, 32, 0, 0);
        // At 3 there is 6, at 4 8; at 2 there is 7, 8 or 9.
        int[][] downs = {{28, 7, 10, 1, 7, 1}, {36, 8, 0, -1, 3, 0}, {46, 9, 0, -1, 3, 0}};
        for (int[] d : downs) {
            SunPoint s = Edges.of("module 3 " + d[0] + ";module 30 21;follow 7 9 50 0 0;way 2 10;");
            s.ticks(1);
            Edges.now(s, 1, 3);
            Edges.due("power(2)", s.power(2), d[1]);
            Edges.due("power(4)", s.power(4), 8);
            s.settle(17, 1);
            s.ticks(1);
            Edges.now(s, 1, d[2], d[3], d[4], d[5]);
        }
        // At 2 there is 3, as at 3, and 1 at 1: neither has more.
        SunPoint up = Edges.after(Edges.TWO + "follow 2 1 50 0 0;way 1 50;", 1);
        Edges.now(up, 1, 2, 1, 4, 0, 3);
        up.ticks(1);
        Edges.now(up, 1, 2, 1, 2, 0, 3);
        // 939 has 93, 940 has 94: 64 farther is beyond 999.
        SunPoint end = Edges.of(WIDE + "follow 64 9 50 0 0;way 2 94;");
        end.ticks(1);
        Edges.now(end, 1, 939, 1, 64, 0, 93);
        end.settle(17, 1);
        end.ticks(1);
        Edges.now(end, 1, 999, 1, 64, 1, 0);
        // At 999 and 998 there is 0: neither has more.
        end.ticks(1);
        Edges.now(end, 1, 999, 1, 32, 0, 0);
        // At 999 (come to by CLIMB, which turned), and 998 has more: down.
        SunPoint down = Edges.of(Edges.times(5, "module 999 500;") + "follow 64 9 50 0 0;way 2 94;");
        down.ticks(1);
        down.settle(17, 0);
        down.ticks(1);
        Edges.now(down, 1, 999, -1, 32, 0, 0);
        down.settle(17, 1);
        down.ticks(1);
        Edges.now(down, 1, 967, -1, 32, 1);
        // At 0, and 1 has no more; below 0 there is nothing.
        SunPoint low = Edges.after("module 8 10;follow 16 9 50 0 0;way 1 50;", 1);
        Edges.now(low, 1, 0, 1, 8, 0, 0);

        Edges.sentence(0, "is that DIRECTION: STREAK is 1 more, is it LEARN or more then, it is 0 and STEP twice itself, 64 at most; else"
            + " DIRECTION is that, STEP half of itself, 1 at least, STREAK 0; (from its POINT it goes by STEP as it was ahead of that).");
        int[][] steps = {{1, 2}, {31, 62}, {32, 64}, {33, 64}, {64, 64}};
        for (int[] step : steps) {
            SunPoint s = Edges.after("module 999 999;follow " + step[0] + " 1 50 0 0;way 1 50;", 1);
            Edges.now(s, 1, step[0], 1, step[1], 0);
        }
        // LEARN 9: eight times up, and only the ninth makes STEP twice itself.
        SunPoint nine = Edges.after("module 999 999;follow 8 9 50 0 0;way 1 50;", 8);
        Edges.now(nine, 1, 64, 1, 8, 8);
        nine.ticks(1);
        Edges.now(nine, 1, 72, 1, 16, 0);
        // LEARN or more: STREAK 3 is 4 then, LEARN 2.
        SunPoint three = Edges.after("module 999 999;follow 8 9 50 0 0;way 1 50;", 3);
        three.settle(13, 2);
        three.ticks(1);
        Edges.now(three, 1, 32, 1, 16, 0);
        // Down from 80 by 7, which is 3 then; from 1 half is 1.
        for (int[] step : new int[][] {{7, 3}, {3, 1}, {2, 1}, {1, 1}, {64, 32}}) {
            SunPoint s = Edges.of(Edges.ONE + "follow " + step[0] + " 9 50 0 0;way 2 80;");
            s.ticks(1);
            s.settle(17, 1);
            s.ticks(1);
            Edges.now(s, 1, 80 - step[0], -1, step[1], 0);
        }

        Edges.sentence(0, "Is neither more: it stays, STEP is half of itself, 1 at least, STREAK 0.");
        SunPoint top = Edges.after(Edges.ONE + "follow 60 3 50 0 0;way 1 50;", 1);
        Edges.now(top, 1, 60, 1, 60, 1, 384);
        for (int step : new int[] {30, 15, 7, 3, 1, 1, 1}) {
            top.ticks(1);
            Edges.now(top, 1, 60, 1, step, 0, 384);
        }
        // DIRECTION down stays as well.
        SunPoint down2 = Edges.of(Edges.ONE + "follow 20 9 50 0 0;way 2 80;");
        down2.ticks(1);
        down2.settle(17, 1);
        down2.ticks(1);
        Edges.now(down2, 1, 60, -1, 10, 0);
        down2.ticks(1);
        Edges.now(down2, 1, 60, -1, 5, 0);
    }

    private static void climbs() {
        Edges.sentence(0, "WAY 0, CLIMB: it goes STEP in DIRECTION, to 0, 999 at most.");
        SunPoint end = Edges.of(WIDE + "follow 64 9 50 0 0;way 2 94;");
        end.ticks(1);
        end.settle(17, 0);
        end.ticks(1);
        Edges.now(end, 1, 999, -1, 32, 0, 0);
        SunPoint exact = Edges.of("module 999 999;follow 10 9 50 0 0;way 2 99;");
        exact.ticks(1);
        Edges.now(exact, 1, 989);
        exact.settle(17, 0);
        exact.ticks(1);
        Edges.now(exact, 1, 999, -1, 5, 0, 0);
        // 5 up (0 is GIVEN, so it turns), then 2 down.
        SunPoint low = Edges.after("module 1 9;follow 5 9 50 0 0;", 1);
        Edges.now(low, 1, 5, -1, 2, 0, 0);
        low.ticks(1);
        Edges.now(low, 1, 3, 1, 1);
        SunPoint zero = Edges.of(Edges.ONE + "follow 64 9 50 0 0;way 2 99;");
        zero.ticks(2);
        Edges.now(zero, 1, 99, 1, 64);
        zero.settle(17, 0);
        // 163 has 0: it turns. From 20 on 32 down is below 0.
        zero.ticks(1);
        Edges.now(zero, 1, 163, -1, 32, 0, 0);
        zero.settle(17, 2);
        zero.settle(18, 20);
        zero.ticks(1);
        Edges.now(zero, 1, 20, -1, 32, 0, 192);
        zero.settle(17, 0);
        zero.ticks(1);
        Edges.now(zero, 1, 0, 1, 16, 0, 0);

        Edges.sentence(0, "Is GIVEN more than LAST: STREAK is 1 more; is it LEARN or more then, it is 0 and STEP twice itself, 64 at most."
            + " Else it turns (DIRECTION), STEP is half of itself, 1 at least, STREAK 0.");
        int[][] steps = {{1, 2}, {31, 62}, {32, 64}, {33, 64}, {64, 64}};
        for (int[] step : steps) {
            SunPoint s = Edges.after("module 999 999;follow " + step[0] + " 1 50 0 0;", 1);
            Edges.now(s, 1, step[0], 1, step[1], 0);
        }
        SunPoint nine = Edges.after("module 999 999;follow 8 9 50 0 0;", 8);
        Edges.now(nine, 1, 64, 1, 8, 8);
        nine.ticks(1);
        Edges.now(nine, 1, 72, 1, 16, 0);
        SunPoint three = Edges.after("module 999 999;follow 8 9 50 0 0;", 3);
        three.settle(13, 2);
        three.ticks(1);
        Edges.now(three, 1, 32, 1, 16, 0);
        // As much as LAST isn't more: at 2 and 3 there is 3.
        SunPoint like = Edges.of(Edges.TWO + "follow 1 9 50 0 0;");
        like.ticks(2);
        Edges.now(like, 1, 2, 1, 1, 2, 3);
        like.ticks(1);
        Edges.now(like, 1, 3, -1, 1, 0, 3);
        // 0 in the first TICK isn't more than LAST, which is 0.
        for (int[] step : new int[][] {{7, 3}, {3, 1}, {2, 1}, {1, 1}, {64, 32}}) {
            SunPoint s = Edges.after("module 1 9;follow " + step[0] + " 9 50 0 0;", 1);
            Edges.now(s, 1, step[0], -1, step[1], 0, 0);
        }
    }

    private static void scansBegin() {
        Edges.sentence(0, "By any WAY: a SCAN begins then (from the next TICK on), if EVERY is above 0 and SINCE EVERY or more,");
        for (int way = 0; way <= 2; way++) {
            SunPoint one = Edges.after(Edges.ONE + "follow 4 3 50 1 0;way " + way + " 50;", 1);
            Edges.now(one, 6, 1, 1);
            Edges.due("SCANNED", one.past(0, 9), 0);
            Edges.holds("it went", one.now(1) > 0);
            one.ticks(1);
            Edges.now(one, 1, 0);
            Edges.due("SCANNED", one.past(0, 9), 1);
            SunPoint most = Edges.after(Edges.ONE + "follow 4 3 200 500 0;way " + way + " 50;", 499);
            Edges.now(most, 6, 0, 499);
            most.ticks(1);
            Edges.now(most, 6, 1, 500);
            SunPoint never = Edges.after(Edges.ONE + "follow 4 3 50 0 0;way " + way + " 50;", 600);
            Edges.now(never, 6, 0, 600);
            Edges.due("sum(7)", never.sum(7), 0);
            // Or more: SINCE is 8 then, EVERY 3.
            SunPoint more = Edges.after(Edges.ONE + "way " + way + " 50;", 7);
            more.settle(15, 3);
            Edges.now(more, 6, 0, 7);
            more.ticks(1);
            Edges.now(more, 6, 1, 8);
        }
        // SINCE is 0 when a SCAN ends: with EVERY 2 two TICKS lie between.
        SunPoint again = Edges.after(Edges.ONE + "follow 4 3 200 2 0;", 8);
        Edges.now(again, 6, 0, 0);
        again.ticks(1);
        Edges.now(again, 6, 0, 1);
        again.ticks(1);
        Edges.now(again, 6, 1, 2);

        Edges.sentence(0, "or if DROP is above 0 and GIVEN times 100 less than LAST (as it was) times (100 less DROP). LAST is GIVEN.");
        // LIT 12 has 4 at 6 (7 VOLTS), 2 at 3 (9 VOLTS): a half, just as much as DROP 50 asks.
        for (int drop = 0; drop <= 100; drop++) {
            SunPoint s = Edges.after("module 12 10;follow 3 9 200 0 " + drop + ";way 2 50;", 1);
            Edges.now(s, 5, 4, 0);
            s.settle(18, 25);
            s.ticks(1);
            Edges.now(s, 5, 2, drop > 0 && drop < 50 ? 1 : 0);
        }
        // 384, of which 380 (at 56) is less than 99 in the hundred, 381 (at 57) isn't.
        for (int share = 56; share <= 57; share++) {
            SunPoint s = Edges.after(STEADY + "follow 3 9 200 0 1;", 1);
            s.settle(18, share);
            s.ticks(1);
            Edges.now(s, 5, share == 56 ? 380 : 381, share == 56 ? 1 : 0);
        }
        // All is gone: by DROP 0 none, by 100 none (0 isn't less than 0), by all others.
        for (int drop : new int[] {0, 1, 50, 99, 100}) {
            SunPoint s = Edges.after(STEADY + "follow 3 9 200 0 " + drop + ";", 1);
            s.light(0, 0);
            s.ticks(1);
            Edges.now(s, 5, 0, drop > 0 && drop < 100 ? 1 : 0);
        }
        // As much as LAST is no less, and more isn't.
        SunPoint like = Edges.after(STEADY + "follow 3 9 200 0 1;", 9);
        Edges.now(like, 5, 384, 0);
        // LAST as it was ahead of this TICK: 384.
        for (int way = 0; way <= 2; way++) {
            SunPoint s = Edges.after(STEADY + "follow 1 9 200 0 60;", 1);
            s.settle(17, way);
            s.light(0, 50);
            s.ticks(1);
            Edges.now(s, 6, s.past(0, 1) * 100 < 384 * 40 ? 1 : 0, 2);
            Edges.now(s, 5, s.past(0, 1));
        }
        // In a SCAN LAST stays, so that no SCAN begins by what was GIVEN in it.
        SunPoint in = Edges.after(STEADY + "follow 3 9 200 0 1;", 1);
        in.scan();
        in.ticks(5);
        Edges.now(in, 5, 384, 1, 1);
        in.ticks(1);
        Edges.now(in, 5, 0, 0, 0);
    }

    // ---------------------------------------------------------------- (c)

    private static void charge() {
        Edges.sentence(0, "THE BATTERY: CHARGE is DRAIN less, 0 at least.");
        int[][] drains = {{0, 999, 0}, {5, 10, 5}, {10, 10, 10}, {11, 10, 10}, {999, 999, 999}, {1000, 999, 999}, {500, 0, 0}};
        for (int[] d : drains) {
            SunPoint s = Edges.after("module 1 9;battery 1000 " + d[0] + " " + d[1] + ";stages 1500 1350 80 20 100;", 1);
            Edges.now(s, 8, d[0] - d[2]);
            Edges.due("sum(5)", s.sum(5), d[2]);
        }

        Edges.sentence(0, "BASE: 1100 and 300 times CHARGE by CAP. TAKEN: in BULK GIVEN;");
        SunPoint bulk = Edges.after(STEADY + "battery 99999 0 0;stages 2000 2000 0 9 0;", 2);
        Edges.row(bulk, 60, 384, 384, 384, 0, 0, 50000, 0);
        Edges.now(bulk, 8, 768);
        // 300 times 384 by 10000 is 11.52: BASE is 1111 (19 VOLTS to 1130), not 1112.
        SunPoint base = Edges.after(STEADY + "stages 1119 1119 0 9 0;", 2);
        Edges.row(base, 60, 384, 384, 20 * 8 + 19, 384 - 179, 0, 50000, 1);
        // CHARGE is 999 of 1000: BASE is 1399 (299.7), and 1 is all that CAP leaves; 998: 1399 (299.4).
        for (int high = 1398; high <= 1400; high++) {
            for (int drain = 1; drain <= 2; drain++) {
                SunPoint s = held(high, 200, 0);
                s.settle(1, drain);
                s.ticks(1);
                Edges.due("TAKEN", s.past(0, 3), high < 1399 ? 0 : drain);
            }
        }
        // At first it is by CHARGE 0: just 1100; and by all of CAP 99999 1400, by 1 less 1399.
        Edges.now(Edges.after("module 1 9;stages 1100 1100 0 9 0;", 1), 9, 1);
        Edges.now(Edges.after("module 1 9;stages 1101 1100 0 9 0;", 1), 9, 0);
        Edges.now(Edges.after("module 1 9;battery 99999 99998 0;stages 1399 1100 0 9 0;", 1), 9, 1);
        Edges.now(Edges.after("module 1 9;battery 99999 99998 0;stages 1400 1100 0 9 0;", 1), 9, 0);

        Edges.sentence(0, "in HELD, FLOAT GIVEN, but no more than 20 times (HIGH, LOW less BASE) and 19, 0 at least; never more than CAP less"
            + " CHARGE. CHARGE is TAKEN more.");
        for (int over = -2; over <= 19; over++) {
            int most = Math.max(0, Math.min(384, 20 * over + 19));
            for (SunPoint s : new SunPoint[] {held(1250 + over, 200, 0), floating("1400 " + (1250 + over), 0)}) {
                // BASE is 1250 at the half of CAP.
                s.settle(1, 500);
                s.ticks(1);
                Edges.due("TAKEN, " + over + " above BASE", s.past(0, 3), most);
                Edges.now(s, 8, 500 + most);
            }
        }
        // In BULK it is by nothing but CAP less CHARGE.
        for (int left : new int[] {0, 1, 383, 384, 385}) {
            SunPoint s = Edges.after(STEADY + "battery 10000 " + (10000 - left) + " 0;stages 2000 2000 0 9 0;", 1);
            Edges.due("TAKEN of " + left, s.past(0, 3), Math.min(384, left));
            Edges.now(s, 8, 10000 - left + Math.min(384, left), left <= 384 ? 1 : 0);
        }
        // In HELD and FLOAT by that, too: DRAIN leaves room for 1, 383, 384, 385.
        for (int left : new int[] {0, 1, 383, 384, 385}) {
            for (SunPoint s : new SunPoint[] {held(2000, 200, 0), floating("2000 2000", 0)}) {
                s.settle(1, left);
                s.ticks(1);
                Edges.due("TAKEN of " + left, s.past(0, 3), Math.min(384, left));
                Edges.now(s, 8, 1000 - left + Math.min(384, left));
            }
        }
        // In HELD by HIGH, in FLOAT by LOW: BASE is 1394, then 1392.
        SunPoint both = Edges.after(STEADY + "battery 10000 10000 200;stages 1400 1390 0 1 0;", 2);
        Edges.now(both, 8, 9939, 2);
        both.ticks(1);
        Edges.now(both, 8, 9739, 2);
    }

    /** HELD in its first TICK behind that in which it began; CHARGE is CAP, 1000; HOLD, TAPER as told. */
    private static SunPoint held(int high, int hold, int taper) {
        SunPoint s = Edges.after(STEADY + "battery 1000 1000 0;stages " + high + " 1100 0 " + hold + " " + taper + ";", 1);
        Edges.now(s, 8, 1000, 1, 0);
        return s;
    }

    /** FLOAT; CHARGE is CAP, 1000; HIGH and LOW, BACK as told. */
    private static SunPoint floating(String stages, int back) {
        SunPoint s = Edges.after(STEADY + "battery 1000 1000 0;stages " + stages + " " + back + " 1 0;", 2);
        Edges.now(s, 8, 1000, 2, 1);
        return s;
    }

    private static void stages() {
        Edges.sentence(0, "BULK: are BASE and TAKEN by 20 HIGH or more together, or CHARGE is CAP, HELD begins, LONG is 0.");
        // BASE is 1250, 384 by 20 is 19.
        for (int high = 1267; high <= 1272; high++) {
            SunPoint s = Edges.after(STEADY + "battery 1000 500 0;stages " + high + " 1100 80 9 0;", 1);
            Edges.now(s, 8, 884, high <= 1269 ? 1 : 0, 0);
            Edges.due("sum(8)", s.sum(8), high <= 1269 ? 1 : 0);
        }
        // CAP itself, and one less.
        for (int left = 382; left <= 386; left++) {
            SunPoint s = Edges.after(STEADY + "battery 5000 " + (5000 - left) + " 0;stages 2000 1100 80 9 0;", 1);
            Edges.now(s, 9, left <= 384 ? 1 : 0);
        }
        // BASE is by CHARGE ahead of what is TAKEN: 1100 still.
        SunPoint ahead = Edges.after(STEADY + "battery 1000 0 0;stages 1120 1100 80 9 0;", 1);
        Edges.now(ahead, 8, 384, 0);
        // LONG, 3 from the time before, is 0 when HELD begins anew.
        SunPoint again = held(1400, 3, 0);
        again.settle(4, 100);
        again.ticks(3);
        Edges.now(again, 9, 2, 3);
        again.settle(1, 999);
        again.ticks(1);
        Edges.now(again, 9, 0, 3);
        again.settle(1, 0);
        again.ticks(3);
        Edges.now(again, 8, 1000, 1, 0);

        Edges.sentence(0, "HELD: LONG is 1 more; is it HOLD or more, or TAKEN below TAPER and GIVEN not, FLOAT begins.");
        for (int hold : new int[] {1, 2, 199, 200}) {
            SunPoint s = held(1400, hold, 0);
            for (int i = 1; i < hold; i++) {
                s.ticks(1);
                Edges.now(s, 9, 1, i);
            }
            s.ticks(1);
            Edges.now(s, 9, 2, hold);
            Edges.due("sum(9)", s.sum(9), 1);
        }
        // Or more: LONG is 6 then, HOLD 2.
        SunPoint more = held(1400, 100, 0);
        more.ticks(5);
        more.settle(5, 2);
        Edges.now(more, 9, 1, 5);
        more.ticks(1);
        Edges.now(more, 9, 2, 6);
        // TAKEN is 179 (8 above BASE), GIVEN 384.
        for (int taper : new int[] {0, 1, 178, 179, 180, 181, 383, 384, 385, 386, 99999}) {
            SunPoint s = held(1258, 200, taper);
            s.settle(1, 500);
            s.ticks(1);
            Edges.due("TAKEN", s.past(0, 3), 179);
            Edges.now(s, 9, taper >= 180 && taper <= 384 ? 2 : 1, 1);
        }

        Edges.sentence(0, "FLOAT: is CHARGE times 100 less than BACK times CAP, BULK begins.");
        for (int drain = 198; drain <= 202; drain++) {
            SunPoint s = floating("1400 1100", 80);
            s.settle(1, drain);
            s.ticks(1);
            Edges.now(s, 8, 1000 - drain, drain > 200 ? 0 : 2);
            Edges.due("sum(10)", s.sum(10), drain > 200 ? 1 : 0);
        }
        // BACK 100: as much as CAP isn't less, one less is; BACK 0: nothing is less than 0.
        SunPoint all = floating("1400 1100", 100);
        all.ticks(3);
        Edges.now(all, 8, 1000, 2);
        all.settle(1, 1);
        all.ticks(1);
        Edges.now(all, 8, 999, 0);
        SunPoint none = floating("1400 1100", 0);
        none.light(0, 0);
        none.settle(1, 999);
        none.ticks(2);
        Edges.now(none, 8, 0, 2);
        // 1 in the hundred of 1000 is 10.
        for (int left : new int[] {9, 10}) {
            SunPoint s = floating("1400 1100", 1);
            s.light(0, 0);
            s.settle(1, 990 + (10 - left));
            s.ticks(1);
            Edges.now(s, 8, left, left == 9 ? 0 : 2);
        }

        Edges.sentence(0, "(One change a TICK; BULK at first.)");
        Edges.now(new SunPoint(), 9, 0);
        // Each TICK could do the next change, too: CHARGE is CAP, HOLD 1, BACK 100.
        SunPoint change = Edges.of("module 1 9;battery 1000 1000 0;stages 1100 1100 100 1 0;");
        change.ticks(1);
        Edges.now(change, 9, 1, 0);
        change.settle(1, 5);
        change.ticks(1);
        Edges.now(change, 9, 2, 1);
        change.ticks(1);
        Edges.now(change, 9, 0, 1);
        change.ticks(1);
        Edges.now(change, 9, 1, 0);
        change.ticks(1);
        Edges.now(change, 9, 2, 1);
        Edges.due("HELD, FLOAT, BULK began", change.sum(8) * 100 + change.sum(9) * 10 + change.sum(10), 221);
    }

    // ---------------------------------------------------------------- (d)

    private static void rate() {
        Edges.sentence(0, "THE INVERTER (ON at first, GRID 1, TUNE 50000, RATE 50000, OUT 0, BAD 0, WAITED 0).");
        Edges.now(new SunPoint(), 11, 1, 1, 50000, 50000, 0, 0, 0);
        Edges.now(Edges.of(Edges.ONE + "inverter 1 1 1000 1 1;"), 11, 1, 1, 50000, 50000, 0, 0, 0);

        Edges.sentence(0, "ON: with GRID RATE is 50000;");
        SunPoint with = Edges.of(Edges.ONE + "inverter 5000 20 77 1 1;");
        with.tune(55000);
        with.ticks(3);
        Edges.now(with, 14, 50000);
        with.grid(0);
        with.ticks(1);
        Edges.now(with, 14, 50702);
        with.grid(1);
        with.ticks(1);
        Edges.now(with, 14, 50000);

        Edges.sentence(0, "without: RATE is first (TUNE less RATE) by 8 more (towards 0), then PUSH more, if it is 50000 or more then, else PUSH"
            + " less.");
        // TUNE, PUSH, RATE behind one TICK
        int[][] rates = {{50000, 0, 50000}, {50007, 0, 50000}, {50008, 0, 50001}, {50015, 0, 50001}, {50016, 0, 50002},
            {49993, 0, 50000}, {49992, 0, 49999}, {49985, 0, 49999}, {49984, 0, 49998}, {55000, 0, 50625}, {45000, 0, 49375},
            {50000, 50, 50050}, {49993, 50, 50050}, {49992, 50, 49949}, {50008, 50, 50051}, {55000, 1000, 51625},
            {45000, 1000, 48375}, {49993, 1000, 51000}, {49992, 1, 49998}};
        for (int[] r : rates) {
            SunPoint s = Edges.of(Edges.ONE + "inverter 5000 20 " + r[1] + " 1 1;");
            s.grid(0);
            s.tune(r[0]);
            s.ticks(1);
            Edges.now(s, 14, r[2]);
        }
        // From above 50000 down, towards 0: 50100 less 12 (12.5) and 100 more; below: 49899 and 12 (12.6) less 100.
        SunPoint two = Edges.of(Edges.ONE + "inverter 5000 20 100 1 1;");
        two.grid(0);
        two.ticks(2);
        Edges.now(two, 14, 50188);
        SunPoint below = Edges.of(Edges.ONE + "inverter 5000 20 100 1 1;");
        below.grid(0);
        below.tune(49992);
        below.ticks(1);
        Edges.now(below, 14, 49899);
        below.tune(50000);
        below.ticks(1);
        Edges.now(below, 14, 49811);
        // Just 50000 from below: PUSH more.
        SunPoint just = Edges.of(Edges.ONE + "inverter 5000 20 7 1 1;");
        just.grid(0);
        just.tune(49992);
        just.ticks(1);
        Edges.now(just, 14, 49992);
        just.tune(50056);
        just.ticks(1);
        Edges.now(just, 14, 50007);
        just.tune(49944);
        just.settle(9, 0);
        just.ticks(1);
        Edges.now(just, 14, 50000);

        Edges.sentence(0, "Is RATE farther than WINDOW from 50000, BAD is 1 more, else 0.");
        for (int window : new int[] {1, 2, 100, 999}) {
            for (int push = window - 1; push <= window + 1; push++) {
                SunPoint above = Edges.of(Edges.ONE + "inverter " + window + " 20 " + push + " 1 1;");
                above.grid(0);
                above.ticks(1);
                Edges.now(above, 14, 50000 + push, 0, push > window ? 1 : 0);
                SunPoint under = Edges.of(Edges.ONE + "inverter " + window + " 20 " + (push - 1 < 0 ? 0 : push - 1) + " 1 1;");
                under.grid(0);
                under.tune(49992);
                under.ticks(1);
                int rate = 49999 - (push - 1 < 0 ? 0 : push - 1);
                Edges.now(under, 14, rate, 0, 50000 - rate > window ? 1 : 0);
            }
        }
        SunPoint most = Edges.of(Edges.ONE + "inverter 5000 20 1000 1 1;");
        most.grid(0);
        most.tune(55000);
        // 51625, 53046 (421), 54290 (244), 55378 (88)
        most.ticks(3);
        Edges.now(most, 14, 54290, 0, 0);
        most.ticks(1);
        Edges.now(most, 14, 55378, 0, 1);
        most.ticks(1);
        Edges.now(most, 16, 2);
        // Within again: 0 at once.
        most.settle(9, 0);
        most.tune(45000);
        most.ticks(1);
        Edges.holds("within 5000", most.now(14) - 50000 <= 5000);
        Edges.now(most, 16, 0);
        most.tune(55000);
        most.settle(9, 1000);
        most.ticks(5);
        Edges.holds("BAD again", most.now(16) > 0);
        most.grid(1);
        most.ticks(1);
        Edges.now(most, 14, 50000, 0, 0);
    }

    private static void island() {
        Edges.sentence(0, "Is BAD TRIP or more: an ISLAND is SEEN: it is OFF, OUT 0, WAITED 0, BAD 0.");
        for (int trip : new int[] {1, 2, 19, 20}) {
            SunPoint s = full("inverter 10 " + trip + " 100 3 99999;");
            s.ticks(1);
            s.grid(0);
            for (int i = 1; i < trip; i++) {
                s.ticks(1);
                Edges.now(s, 11, 1);
                Edges.now(s, 15, 384, i);
                Edges.due("sum(6)", s.sum(6), 0);
            }
            s.ticks(1);
            Edges.now(s, 11, 0);
            Edges.now(s, 15, 0, 0, 0);
            Edges.row(s, 60, 384, 384, 0, 0, 384);
            Edges.due("sum(6)", s.sum(6), 1);
            s.ticks(9);
            Edges.due("sum(6), OFF", s.sum(6), 1);
        }
        // Or more: BAD is 6 then, TRIP 2.
        SunPoint more = full("inverter 10 20 100 3 99999;");
        more.grid(0);
        more.ticks(5);
        more.settle(8, 2);
        Edges.now(more, 16, 5);
        more.ticks(1);
        Edges.now(more, 11, 0);
        Edges.now(more, 16, 0);
        // WAITED, 3 from the time before, is 0 again.
        SunPoint twice = full("inverter 10 1 100 3 99999;");
        twice.grid(0);
        twice.ticks(1);
        twice.grid(1);
        twice.ticks(3);
        Edges.now(twice, 17, 3);
        Edges.now(twice, 11, 1);
        twice.grid(0);
        twice.ticks(1);
        Edges.now(twice, 11, 0);
        Edges.now(twice, 17, 0);
        Edges.due("sum(6)", twice.sum(6), 2);

        Edges.sentence(0, "OFF: RATE stays; with GRID WAITED is 1 more, without 0; is it WAIT or more, it is ON from the next TICK on, RATE 50000,"
            + " BAD 0.");
        for (int wait : new int[] {1, 2, 98, 99}) {
            SunPoint s = full("inverter 10 1 100 " + wait + " 100;");
            s.grid(0);
            s.tune(51000);
            s.ticks(1);
            Edges.now(s, 14, 50225, 0, 0, 0);
            s.ticks(3);
            Edges.now(s, 14, 50225, 0, 0, 0);
            s.grid(1);
            for (int i = 1; i < wait; i++) {
                s.ticks(1);
                Edges.now(s, 11, 0);
                Edges.now(s, 14, 50225, 0, 0, i);
            }
            // Without GRID it is 0 again, and all is waited for anew.
            s.grid(0);
            s.ticks(1);
            Edges.now(s, 17, 0);
            s.grid(1);
            for (int i = 1; i < wait; i++) {
                s.ticks(1);
                Edges.now(s, 11, 0);
                Edges.now(s, 17, i);
            }
            s.ticks(1);
            Edges.now(s, 11, 1);
            Edges.now(s, 14, 50000, 0, 0, wait);
            // From the next TICK on.
            Edges.row(s, 60, 384, 384, 0, 0, 384, 50000, 2, 1);
            s.ticks(1);
            Edges.row(s, 60, 384, 384, 0, 100, 284, 50000, 2, 1);
        }
        // Or more: WAITED is 6 then, WAIT 2.
        SunPoint more2 = full("inverter 10 1 100 99 100;");
        more2.grid(0);
        more2.ticks(1);
        more2.grid(1);
        more2.ticks(5);
        more2.settle(10, 2);
        Edges.now(more2, 11, 0);
        more2.ticks(1);
        Edges.now(more2, 11, 1);
        Edges.now(more2, 17, 6);
    }

    private static void out() {
        Edges.sentence(0, "OUT of this TICK: 0, if it is OFF (or was, or an ISLAND is SEEN now); else GIVEN less TAKEN, no more than OUT of the TICK"
            + " ahead and RAMP. SPILLED: what is left of GIVEN.");
        int[][] ramps = {{1, 1, 2, 3}, {127, 127, 254, 381}, {128, 128, 256, 384}, {129, 129, 258, 384}, {383, 383, 384, 384},
            {384, 384, 384, 384}, {385, 384, 384, 384}, {99999, 384, 384, 384}};
        for (int[] r : ramps) {
            SunPoint s = full("inverter 10 1 100 1 " + r[0] + ";");
            for (int i = 1; i <= 3; i++) {
                s.ticks(1);
                Edges.due("OUT by RAMP " + r[0], s.past(0, 4), r[i]);
                Edges.due("SPILLED by RAMP " + r[0], s.past(0, 5), 384 - r[i]);
                Edges.now(s, 15, r[i]);
            }
        }
        // Less at once; and up again from there.
        SunPoint less = full("inverter 10 1 100 1 200;");
        less.ticks(2);
        Edges.now(less, 15, 384);
        less.light(0, 0);
        less.ticks(1);
        Edges.now(less, 15, 0);
        less.light(0, 100);
        less.ticks(1);
        Edges.now(less, 15, 200);
        // GIVEN less TAKEN: 284 behind 100, and 0 where all is TAKEN.
        SunPoint taken = Edges.after(STEADY + "battery 1000 900 0;", 1);
        Edges.row(taken, 60, 384, 384, 100, 284, 0);
        SunPoint nothing = Edges.after(STEADY, 1);
        Edges.row(nothing, 60, 384, 384, 384, 0, 0);
        // SEEN now, OFF, was OFF (ON behind it), and ON from 0 up.
        SunPoint s = full("inverter 10 1 100 2 200;");
        s.ticks(2);
        s.grid(0);
        s.ticks(1);
        Edges.row(s, 60, 384, 384, 0, 0, 384, 50100, 2, 0);
        s.grid(1);
        s.ticks(1);
        Edges.row(s, 60, 384, 384, 0, 0, 384, 50100, 2, 0);
        s.ticks(1);
        Edges.row(s, 60, 384, 384, 0, 0, 384, 50000, 2, 1);
        s.ticks(1);
        Edges.row(s, 60, 384, 384, 0, 200, 184, 50000, 2, 1);
        s.ticks(1);
        Edges.row(s, 60, 384, 384, 0, 384, 0, 50000, 2, 1);
    }

    // ---------------------------------------------------------------- promises 5 to 11

    private static void ticks() {
        Edges.sentence(5, "n 1 .. 500 TICKS: what was GIVEN in them together; NONE: no such n, no MODULES, there would be more than 9999.");
        SunPoint s = Edges.of(STEADY);
        for (int n : new int[] {0, -1, 501, 502, 9999, Edges.MIN, Edges.MAX}) {
            Edges.due("ticks(" + n + ")", s.ticks(n), -1);
            Edges.now(s, 0, 0);
            Edges.due("ticks(" + n + ") without MODULES", new SunPoint().ticks(n), -1);
        }
        due(s, 1, 384);
        due(s, 500, 500 * 384);
        Edges.now(s, 0, 501);
        SunPoint none = new SunPoint();
        Edges.due("ticks(1) without MODULES", none.ticks(1), -1);
        Edges.due("ticks(500) without MODULES", none.ticks(500), -1);
        Edges.now(none, 0, 0);
        for (int left : new int[] {0, 1, 2, 499}) {
            SunPoint late = Edges.after(STEADY, 9999 - left);
            Edges.due("ticks(" + (left + 1) + ") of " + left, late.ticks(left + 1), -1);
            Edges.due("ticks(500) of " + left, late.ticks(500), -1);
            Edges.now(late, 0, 9999 - left);
            if (left > 0) {
                due(late, left, left * 384);
            }
            Edges.now(late, 0, 9999);
            Edges.due("ticks(1) of none", late.ticks(1), -1);
        }
        SunPoint just = Edges.after(STEADY, 9499);
        due(just, 500, 500 * 384);
        Edges.now(just, 0, 9999);

        Edges.sentence(0, "TICKS are 9999 at most.");
        Edges.due("ticks(1)", just.ticks(1), -1);
        Edges.due("ticks(500)", just.ticks(500), -1);
        Edges.now(just, 0, 9999);
        Edges.due("sum(0)", just.sum(0), 9999L * 384);
        // A new TEXT begins them anew.
        just.text(Edges.feed(just, STEADY));
        due(just, 500, 500 * 384);
    }

    private static void light() {
        Edges.sentence(6, "LIGHT of a MODULE becomes v: what it was; NONE: no such ones.");
        SunPoint s = Edges.of(Edges.TWO);
        int was = 100;
        for (int v : new int[] {0, 1, 99, 100, 100, 50}) {
            Edges.due("light(1, " + v + ")", s.light(1, v), was);
            Edges.due("module(1, 2)", s.module(1, 2), v);
            was = v;
        }
        for (int v : new int[] {-1, 101, Edges.MIN, Edges.MAX}) {
            Edges.due("light(1, " + v + ")", s.light(1, v), -1);
            Edges.due("light(2, " + v + ")", s.light(2, v), -1);
        }
        for (int m : new int[] {-1, 2, 6, Edges.MIN, Edges.MAX}) {
            Edges.due("light(" + m + ", 5)", s.light(m, 5), -1);
        }
        Edges.due("module(1, 2)", s.module(1, 2), 50);
        Edges.due("module(0, 2)", s.module(0, 2), 100);
        Edges.due("light(0, 5) without MODULES", new SunPoint().light(0, 5), -1);
    }

    private static void grid() {
        Edges.sentence(7, "GRID becomes v 0, 1: what it was; NONE: no such one.");
        SunPoint s = new SunPoint();
        int was = 1;
        for (int v : new int[] {0, 0, 1, 1, 0}) {
            Edges.due("grid(" + v + ")", s.grid(v), was);
            Edges.now(s, 12, v);
            was = v;
        }
        for (int v : new int[] {-1, 2, Edges.MIN, Edges.MAX}) {
            Edges.due("grid(" + v + ")", s.grid(v), -1);
            Edges.now(s, 12, 0);
        }
    }

    private static void tune() {
        Edges.sentence(8, "TUNE becomes v 45000 .. 55000: what it was; NONE: no such one.");
        SunPoint s = new SunPoint();
        int was = 50000;
        for (int v : new int[] {45000, 45001, 54999, 55000}) {
            Edges.due("tune(" + v + ")", s.tune(v), was);
            Edges.now(s, 13, v);
            was = v;
        }
        for (int v : new int[] {44999, 55001, 0, -1, Edges.MIN, Edges.MAX}) {
            Edges.due("tune(" + v + ")", s.tune(v), -1);
            Edges.now(s, 13, 55000);
        }
    }

    private static void scan() {
        Edges.sentence(9, "A SCAN begins: 1; 0: there is one already (it goes on); NONE: no MODULES.");
        SunPoint none = new SunPoint();
        Edges.due("scan() without MODULES", none.scan(), -1);
        Edges.now(none, 6, 0);
        SunPoint s = Edges.of(Edges.ONE + "follow 4 3 200 2 0;");
        Edges.due("scan()", s.scan(), 1);
        Edges.now(s, 6, 1);
        Edges.due("scan(), not yet gone", s.scan(), 0);
        for (int x = 0; x <= 800; x += 200) {
            s.ticks(1);
            Edges.now(s, 1, x);
            Edges.due("scan(), at " + x, s.scan(), 0);
        }
        s.ticks(1);
        Edges.now(s, 6, 0);
        Edges.due("sum(7)", s.sum(7), 1);
        // Behind its end at once: one that goes on has not ended.
        Edges.due("scan()", s.scan(), 1);
        s.ticks(1);
        Edges.due("sum(7)", s.sum(7), 1);
        s.ticks(5);
        Edges.due("sum(7)", s.sum(7), 2);
        s.ticks(1);
        Edges.due("sum(7)", s.sum(7), 2);
        s.ticks(1);
        Edges.due("sum(7)", s.sum(7), 2);
        s.ticks(6);
        Edges.now(s, 6, 0, 0);
        // One that began by EVERY is there already, too.
        s.ticks(2);
        Edges.now(s, 6, 1);
        Edges.due("scan()", s.scan(), 0);
        s.ticks(6);
        Edges.due("scan() behind it", s.scan(), 1);
    }

    private static void told() {
        Edges.sentence(10, "NONE for another what.");
        SunPoint s = Edges.of(Edges.ONE + "battery 2000 7 8;stages 1500 1200 9 10 11;inverter 12 13 14 15 16;follow 17 8 19 20 21;way 2 22;");
        int[] then = {2000, 8, 1500, 1200, 9, 10, 11, 12, 13, 14, 15, 16, 17, 8, 19, 20, 21, 2, 22};
        for (int what = 0; what < 19; what++) {
            Edges.due("told(" + what + ")", s.told(what), then[what]);
        }
        for (int what : new int[] {-1, 19, 20, Edges.MIN, Edges.MAX}) {
            Edges.due("told(" + what + ")", s.told(what), -1);
        }
    }

    private static void settle() {
        Edges.sentence(11, "DRAIN (what 1), or one of 4 .. 18, becomes v (as the TEXT may tell it): what it was; NONE: no such ones.");
        int[] least = {1000, 0, 1100, 1100, 0, 1, 0, 1, 1, 0, 1, 1, 1, 1, 10, 0, 0, 0, 1};
        int[] most = {99999, 999, 2000, 2000, 100, 200, 99999, 5000, 20, 1000, 99, 99999, 64, 9, 200, 500, 100, 2, 99};
        SunPoint s = Edges.of(Edges.ONE);
        for (int what = 0; what < 19; what++) {
            boolean may = what == 1 || what > 3;
            int was = s.told(what);
            Edges.due("settle(" + what + ", least)", s.settle(what, least[what]), may ? was : -1);
            Edges.due("told(" + what + ")", s.told(what), may ? least[what] : was);
            Edges.due("settle(" + what + ", most)", s.settle(what, most[what]), may ? least[what] : -1);
            Edges.due("told(" + what + ")", s.told(what), may ? most[what] : was);
            for (int v : new int[] {least[what] - 1, most[what] + 1, Edges.MIN, Edges.MAX}) {
                Edges.due("settle(" + what + ", " + v + ")", s.settle(what, v), -1);
                Edges.due("told(" + what + ")", s.told(what), may ? most[what] : was);
            }
        }
        for (int what : new int[] {-1, 19, 20, Edges.MIN, Edges.MAX}) {
            Edges.due("settle(" + what + ", 1)", s.settle(what, 1), -1);
        }
        // STEP as told is another, STEP now stays until a SCAN ends.
        Edges.now(s, 3, 4);
        Edges.due("settle without MODULES", new SunPoint().settle(1, 5), 0);
    }
}
