/** The boundary cases of the PANEL: of the terms its part (2.), and promises 12 to 22, 39 and 40. */
final class PanelEdges {
    /** No such module, no such x, no such what: the ends of the numbers, too. */
    private static final int[] BELOW = {-1, -2, Edges.MIN, Edges.MIN + 1};

    private PanelEdges() {
    }

    static void all() {
        lights();
        voltsOfModules();
        powers();
        topsAndBest();
        module();
        voltsAndPower();
        tops();
        best();
        band();
        climbed();
        shadeOf();
        lightFor();
        darkest();
        bestShare();
        slope();
    }

    private static int best(String modules, int... lights) {
        SunPoint s = Edges.of(modules);
        for (int i = 0; i < lights.length; i++) {
            s.light(i, lights[i]);
        }
        return s.best(1);
    }

    // ---------------------------------------------------------------- the terms

    private static void lights() {
        Edges.sentence(0, "LIGHT of a MODULE: 0 .. 100 (100 at first).");
        SunPoint s = Edges.of(Edges.TWO);
        Edges.due("module(0, 2)", s.module(0, 2), 100);
        Edges.due("module(1, 2)", s.module(1, 2), 100);
        Edges.due("light(0, 0)", s.light(0, 0), 100);
        Edges.due("light(0, -1)", s.light(0, -1), -1);
        Edges.due("light(0, 100)", s.light(0, 100), 0);
        Edges.due("light(0, 101)", s.light(0, 101), -1);
        Edges.due("module(0, 2)", s.module(0, 2), 100);

        Edges.sentence(0, "LIT: AMPS times LIGHT by 100.");
        int[][] amps = {{1, 100, 1}, {1, 99, 0}, {1, 0, 0}, {2, 50, 1}, {2, 49, 0}, {2, 99, 1}, {999, 100, 999}, {999, 99, 989},
            {999, 1, 9}, {100, 1, 1}, {99, 1, 0}, {999, 0, 0}, {3, 34, 1}, {3, 33, 0}, {3, 67, 2}, {3, 66, 1}};
        for (int[] a : amps) {
            SunPoint m = Edges.of("module " + a[0] + " 5;");
            m.light(0, a[1]);
            Edges.due("LIT of AMPS " + a[0] + ", LIGHT " + a[1], m.module(0, 3), a[2]);
        }
    }

    private static void voltsOfModules() {
        Edges.sentence(0, "VOLTS at POINT x (0 .. 999) of a MODULE: 0, if x is LIT or more; else VOLTS times (LIT times LIT"
            + " less x times x) by LIT times LIT; of the PANEL: those of all MODULES together.");
        SunPoint s = Edges.of(Edges.ONE);
        // 1.99 at 99, 100 at 0, 99.99 at 1
        points(s, new int[] {0, 1, 98, 99, 100, 101, 999}, 100, 99, 3, 1, 0, 0, 0);
        s.light(0, 50);
        // 3.96 at 49
        points(s, new int[] {0, 1, 49, 50, 51, 99, 100}, 100, 99, 3, 0, 0, 0, 0);
        s.light(0, 0);
        points(s, new int[] {0, 1, 999}, 0, 0, 0);
        SunPoint one = Edges.of("module 1 999;");
        points(one, new int[] {0, 1, 2}, 999, 0, 0);
        SunPoint two = Edges.of("module 2 999;");
        // 749.25
        points(two, new int[] {0, 1, 2}, 999, 749, 0);
        // 998 times 998 is 996004, 1997 less than 998001; 999 times that by 998001 is 1.99
        SunPoint most = Edges.of("module 999 999;");
        points(most, new int[] {0, 1, 998, 999}, 999, 998, 1, 0);
        points(Edges.of("module 999 499;"), new int[] {998, 999}, 0, 0);
        // Each is downwards by itself: 9.37 and 9.84, then 7.5 and 9.37.
        points(Edges.of(Edges.TWO), new int[] {0, 1, 2, 3, 4, 7, 8}, 20, 18, 16, 12, 7, 2, 0);
        points(Edges.of(Edges.times(6, "module 999 999;")), new int[] {0, 998, 999}, 5994, 6, 0);
        points(new SunPoint(), new int[] {0, 1, 999}, 0, 0, 0);
    }

    private static void points(SunPoint s, int[] at, int... want) {
        for (int i = 0; i < at.length; i++) {
            Edges.due("volts(" + at[i] + ")", s.volts(at[i]), want[i]);
            Edges.due("power(" + at[i] + ")", s.power(at[i]), at[i] * want[i] / 10);
        }
    }

    private static void powers() {
        Edges.sentence(0, "POWER at x: x times VOLTS of the PANEL there, by 10. (All \"by\" are downwards.)");
        SunPoint s = Edges.of(Edges.TWO);
        // 0, 18, 32, 36, 28, 30, 24, 14, 0 by 10
        int[] want = {0, 1, 3, 3, 2, 3, 2, 1, 0, 0};
        for (int x = 0; x < want.length; x++) {
            Edges.due("power(" + x + ")", s.power(x), want[x]);
        }
        // 1 times 9 by 10 is 0, 1 times 10 is 1.
        Edges.due("power(1)", Edges.of("module 100 10;").power(1), 0);
        Edges.due("power(1)", Edges.of("module 100 11;").power(1), 1);
        Edges.due("power(0)", Edges.of("module 999 999;").power(0), 0);
        // 577 times 577 is 332929: 999 times 665072 by 998001 is 665.7; 6 times 665 times 577 by 10
        Edges.due("power(577)", Edges.of(Edges.times(6, "module 999 999;")).power(577), 577 * 3990 / 10);
    }

    private static void topsAndBest() {
        Edges.sentence(0, "A TOP: points x from a first to a last one, 1 at least, of one POWER, above 0, more than that at the"
            + " points beside these (beyond 999 there is 0): its x is the first.");
        SunPoint s = Edges.of(Edges.TWO);
        top(s, 0, 2, 3, 2);
        top(s, 1, 5, 3, 1);
        Edges.due("tops()", s.tops(), 2);
        // 0 0 1 2 2 3 2 1 0: the two points with 2 ahead of 3 are none, nor are those with 0.
        s.light(0, 0);
        Edges.due("tops()", s.tops(), 1);
        top(s, 0, 5, 3, 1);
        s.light(1, 0);
        Edges.due("tops() without light", s.tops(), 0);
        // Of 500 VOLTS 2 are left at 996, 1 at 997 and at 998: 5 times 998 by 10 is 499, one more than at 997.
        SunPoint end = Edges.of(Edges.times(5, "module 999 500;"));
        int last = end.tops() - 1;
        top(end, last, 998, 499, 1);
        SunPoint six = Edges.of(Edges.times(6, "module 999 500;"));
        Edges.due("power(996)", six.power(996), 1195);
        Edges.due("power(998), like that at 997", six.power(998), six.power(997));
        Edges.holds("the last TOP ends ahead of 997", six.top(six.tops() - 1, 0) < 997);
        // 8 VOLTS at 1 (0 by 10), 5 at 2 (1).
        SunPoint single = Edges.of("module 3 10;");
        top(single, 0, 2, 1, 1);
        Edges.due("tops()", single.tops(), 1);

        Edges.sentence(0, "BEST: the greatest POWER, at the first x of it (0, if all is 0).");
        s.light(0, 100);
        s.light(1, 100);
        Edges.due("best(0), the first of three", s.best(0), 2);
        Edges.due("best(1)", s.best(1), 3);
        for (SunPoint none : new SunPoint[] {new SunPoint(), Edges.of("module 1 999;"), Edges.of("module 2 13;")}) {
            Edges.due("best(0) without POWER", none.best(0), 0);
            Edges.due("best(1) without POWER", none.best(1), 0);
        }
        // 14 times 3 by 4 is 10.
        Edges.due("best(0)", Edges.of("module 2 14;").best(0), 1);
        Edges.due("best(1)", Edges.of("module 2 14;").best(1), 1);
    }

    private static void top(SunPoint s, int k, int... want) {
        for (int what = 0; what < 3; what++) {
            Edges.due("top(" + k + ", " + what + ")", s.top(k, what), want[what]);
        }
    }

    // ---------------------------------------------------------------- the promises

    private static void module() {
        Edges.sentence(12, "IndexOutOfBoundsException: no such MODULE.");
        for (int n = 0; n <= 6; n++) {
            SunPoint s = Edges.of(Edges.times(n, "module 5 5;"));
            for (int what = 0; what < 4; what++) {
                Edges.due("the last of " + n, Edges.thrown(s, n - 1, what), n == 0 ? 1 : 0);
                Edges.due("one beyond " + n, Edges.thrown(s, n, what), 1);
                Edges.due("module(MAX, " + what + ")", Edges.thrown(s, Edges.MAX, what), 1);
                for (int below : BELOW) {
                    Edges.due("module(" + below + ", " + what + ")", Edges.thrown(s, below, what), 1);
                }
            }
        }

        Edges.sentence(12, "NoSuchElementException: no such what.");
        SunPoint s = Edges.of("module 7 9;module 333 444;");
        s.light(0, 50);
        int[][] want = {{7, 9, 50, 3}, {333, 444, 100, 333}};
        for (int m = 0; m < 2; m++) {
            for (int what = 0; what < 4; what++) {
                Edges.due("module(" + m + ", " + what + ")", s.module(m, what), want[m][what]);
            }
            for (int what : new int[] {-1, 4, 5, Edges.MIN, Edges.MAX}) {
                Edges.due("module(" + m + ", " + what + ") throws", Edges.thrown(s, m, what), 2);
            }
        }

        Edges.sentence(0, "IndexOutOfBoundsException ahead of NoSuchElementException.");
        Edges.due("module(2, 4)", Edges.thrown(s, 2, 4), 1);
        Edges.due("module(-1, -1)", Edges.thrown(s, -1, -1), 1);
        Edges.due("module(MAX, MIN)", Edges.thrown(s, Edges.MAX, Edges.MIN), 1);
        Edges.due("module(0, 4) without MODULES", Edges.thrown(new SunPoint(), 0, 4), 1);
    }

    private static void voltsAndPower() {
        SunPoint s = Edges.of("module 999 999;");
        Edges.sentence(13, "VOLTS of the PANEL at x; NONE: no such x.");
        Edges.due("volts(0)", s.volts(0), 999);
        Edges.due("volts(999)", s.volts(999), 0);
        Edges.due("volts(998)", s.volts(998), 1);
        for (int x : new int[] {-1, 1000, 1001, Edges.MIN, Edges.MAX}) {
            Edges.due("volts(" + x + ")", s.volts(x), -1);
            Edges.due("volts(" + x + ") without MODULES", new SunPoint().volts(x), -1);
        }

        Edges.sentence(14, "POWER at x; NONE: no such x.");
        Edges.due("power(0)", s.power(0), 0);
        Edges.due("power(999)", s.power(999), 0);
        Edges.due("power(998)", s.power(998), 99);
        for (int x : new int[] {-1, 1000, 1001, Edges.MIN, Edges.MAX}) {
            Edges.due("power(" + x + ")", s.power(x), -1);
            Edges.due("power(" + x + ") without MODULES", new SunPoint().power(x), -1);
        }
    }

    private static void tops() {
        Edges.sentence(15, "How many TOPS there are.");
        Edges.due("tops() without MODULES", new SunPoint().tops(), 0);
        Edges.due("tops() without POWER", Edges.of("module 1 999;").tops(), 0);
        Edges.due("tops()", Edges.of("module 3 10;").tops(), 1);
        Edges.due("tops()", Edges.of(Edges.TWO).tops(), 2);

        Edges.sentence(16, "The k-th TOP (0 on, upwards by x), what 0 its x, 1 POWER, 2 how many points it has; -2: there are not so"
            + " many; NONE: no such ones.");
        SunPoint s = Edges.of(Edges.TWO);
        top(s, 0, 2, 3, 2);
        top(s, 1, 5, 3, 1);
        for (int k : new int[] {2, 3, 1000, Edges.MAX}) {
            top(s, k, -2, -2, -2);
        }
        for (int k : BELOW) {
            top(s, k, -1, -1, -1);
        }
        for (int what : new int[] {-1, 3, Edges.MIN, Edges.MAX}) {
            Edges.due("top(0, " + what + ")", s.top(0, what), -1);
            // NONE ahead of -2
            Edges.due("top(2, " + what + ")", s.top(2, what), -1);
            Edges.due("top(0, " + what + ") without TOPS", new SunPoint().top(0, what), -1);
        }
        Edges.due("top(0, 0) without TOPS", new SunPoint().top(0, 0), -2);
        Edges.due("top(-1, 0) without TOPS", new SunPoint().top(-1, 0), -1);
    }

    private static void best() {
        Edges.sentence(17, "BEST, what 0 its x, 1 POWER; NONE for another what.");
        SunPoint s = Edges.of(Edges.ONE);
        Edges.due("best(0)", s.best(0), 60);
        Edges.due("best(1)", s.best(1), 384);
        for (int what : new int[] {-1, 2, Edges.MIN, Edges.MAX}) {
            Edges.due("best(" + what + ")", s.best(what), -1);
            Edges.due("best(" + what + ") without MODULES", new SunPoint().best(what), -1);
        }
    }

    private static void band() {
        Edges.sentence(18, "From the first point to the last one at which POWER times 100 is n 1 .. 100 times BEST or more, what 0"
            + " the first, 1 the last, 2 how many are such; -2: BEST is 0; NONE: no such ones.");
        SunPoint s = Edges.of(Edges.ONE);
        // 384: 192 at 20 is just half, 182 at 19 less, 199 at 21 more; 193 at 88, 178 at 89
        band(s, 50, 20, 88, 69);
        band(s, 51, 21, 87, 67);
        // the greatest alone: 59 has 59 times 65 by 10, 61 has 61 times 62 by 10
        band(s, 100, 60, 60, 1);
        // 4 of 384 is 1 of 100: power(1) is 9, power(99) too
        band(s, 1, 1, 99, 99);
        SunPoint two = Edges.of(Edges.TWO);
        // A point between that isn't such doesn't count.
        band(two, 100, 2, 5, 3);
        band(two, 67, 2, 5, 3);
        band(two, 66, 2, 6, 5);
        band(two, 1, 1, 7, 7);
        SunPoint dark = Edges.of("module 1 999;");
        SunPoint none = new SunPoint();
        for (int what = 0; what < 3; what++) {
            for (int n : new int[] {1, 50, 100}) {
                Edges.due("band(" + n + ", " + what + ") without POWER", dark.band(n, what), -2);
                Edges.due("band(" + n + ", " + what + ") without MODULES", none.band(n, what), -2);
            }
            for (int n : new int[] {0, 101, -1, Edges.MIN, Edges.MAX}) {
                Edges.due("band(" + n + ", " + what + ")", s.band(n, what), -1);
                Edges.due("band(" + n + ", " + what + ") without POWER", dark.band(n, what), -1);
            }
        }
        for (int what : new int[] {-1, 3, Edges.MIN, Edges.MAX}) {
            Edges.due("band(50, " + what + ")", s.band(50, what), -1);
            Edges.due("band(50, " + what + ") without POWER", dark.band(50, what), -1);
        }
    }

    private static void band(SunPoint s, int n, int... want) {
        for (int what = 0; what < 3; what++) {
            Edges.due("band(" + n + ", " + what + ")", s.band(n, what), want[what]);
        }
    }

    private static void climbed() {
        Edges.sentence(19, "The x at which one stays (a point of the TOP that is come to, not always its first one; no TOP perhaps)");
        SunPoint s = Edges.of(Edges.TWO);
        // 0 1 3 3 2 3 2 1 0 0
        climb(s, 2, 2, 2, 3, 3, 5, 5, 5, 5, 9);
        Edges.due("climbed(999)", s.climbed(999), 999);
        Edges.due("climbed(998)", s.climbed(998), 998);
        // 0 0 1 2 2 3 2 1 0: at 0 both sides have 0; at 3 neither side has more.
        s.light(0, 0);
        climb(s, 0, 3, 3, 3, 5, 5, 5, 5, 5, 9);
        s.light(1, 0);
        climb(s, 0, 1, 2, 3, 4, 5, 6, 7, 8, 9);
        Edges.due("climbed(5) without MODULES", new SunPoint().climbed(5), 5);

        Edges.sentence(19, "always to the next point on either side that has more POWER than the one at which one is, the one that has"
            + " more, of like ones that below, till there is none; NONE: no such x.");
        s.light(0, 100);
        s.light(1, 100);
        Edges.due("climbed(4), like ones", s.climbed(4), 3);
        // The last points: 998 is a TOP, 999 has 0.
        SunPoint end = Edges.of(Edges.times(5, "module 999 500;"));
        Edges.due("climbed(999)", end.climbed(999), 998);
        Edges.due("climbed(998)", end.climbed(998), 998);
        Edges.due("climbed(997), 996 has more", end.climbed(997) < 997 ? 1 : 0, 1);
        SunPoint all = Edges.of("module 999 10;");
        for (int x = 0; x < 1000; x += 37) {
            Edges.due("climbed(" + x + ")", all.climbed(x), climbedBy(all, x));
        }
        // Unlike ones on both sides.
        SunPoint unlike = Edges.of("module 4 10;module 8 20;");
        for (int x = 0; x < 10; x++) {
            Edges.due("climbed(" + x + ")", unlike.climbed(x), climbedBy(unlike, x));
        }
        for (int x : new int[] {-1, 1000, Edges.MIN, Edges.MAX}) {
            Edges.due("climbed(" + x + ")", s.climbed(x), -1);
            Edges.due("climbed(" + x + ") without MODULES", new SunPoint().climbed(x), -1);
        }
    }

    private static void climb(SunPoint s, int... want) {
        for (int x = 0; x < want.length; x++) {
            Edges.due("climbed(" + x + ")", s.climbed(x), want[x]);
        }
    }

    private static int climbedBy(SunPoint s, int from) {
        int x = from;
        while (true) {
            int below = x > 0 ? s.power(x - 1) : -1;
            int above = x < 999 ? s.power(x + 1) : -1;
            if (below > s.power(x) && below >= above) {
                x--;
            } else if (above > s.power(x)) {
                x++;
            } else {
                return x;
            }
        }
    }

    private static void shadeOf() {
        Edges.sentence(20, "By how much BEST would be more, were LIGHT of a MODULE 100; NONE: no such MODULE.");
        SunPoint s = Edges.of(Edges.ONE);
        Edges.due("shadeOf(0), LIGHT is 100", s.shadeOf(0), 0);
        s.light(0, 0);
        Edges.due("shadeOf(0), LIGHT is 0", s.shadeOf(0), 384);
        s.light(0, 99);
        Edges.due("shadeOf(0), LIGHT is 99", s.shadeOf(0), 384 - best("module 99 100;"));
        for (int m : new int[] {1, 6, -1, Edges.MIN, Edges.MAX}) {
            Edges.due("shadeOf(" + m + ")", s.shadeOf(m), -1);
        }
        Edges.due("shadeOf(0) without MODULES", new SunPoint().shadeOf(0), -1);
        SunPoint six = Edges.of(Edges.times(6, "module 50 90;"));
        six.light(5, 7);
        for (int m = 0; m < 5; m++) {
            Edges.due("shadeOf(" + m + "), LIGHT is 100", six.shadeOf(m), 0);
        }
        Edges.due("shadeOf(5)", six.shadeOf(5), best(Edges.times(6, "module 50 90;")) - six.best(1));
        Edges.due("shadeOf(6)", six.shadeOf(6), -1);
        // A MODULE in shade, whose light wouldn't help: the other one is better by itself.
        SunPoint other = Edges.of("module 2 1;module 90 900;");
        other.light(0, 0);
        Edges.due("shadeOf(0)", other.shadeOf(0), 0);
    }

    private static void lightFor() {
        Edges.sentence(21, "The least LIGHT of a MODULE by which BEST would be n 0 .. 9999999 or more; -2: by none; NONE: no such ones.");
        SunPoint s = Edges.of(Edges.ONE);
        Edges.due("lightFor(0, 0)", s.lightFor(0, 0), 0);
        Edges.due("lightFor(0, 384)", s.lightFor(0, 384), 100);
        Edges.due("lightFor(0, 385)", s.lightFor(0, 385), -2);
        Edges.due("lightFor(0, 9999999)", s.lightFor(0, 9999999), -2);
        for (int n : new int[] {10000000, -1, Edges.MIN, Edges.MAX}) {
            Edges.due("lightFor(0, " + n + ")", s.lightFor(0, n), -1);
        }
        for (int m : new int[] {1, 6, -1, Edges.MIN, Edges.MAX}) {
            Edges.due("lightFor(" + m + ", 0)", s.lightFor(m, 0), -1);
            // NONE ahead of -2
            Edges.due("lightFor(" + m + ", 9999999)", s.lightFor(m, 9999999), -1);
        }
        Edges.due("lightFor(0, 0) without MODULES", new SunPoint().lightFor(0, 0), -1);
        for (String modules : new String[] {Edges.ONE, Edges.TWO, "module 7 90;module 9 60;module 8 99;", "module 60 9;module 99 7;"}) {
            leastLights(modules, 0);
            leastLights(modules, 40);
        }
        // Without this MODULE BEST is n already.
        SunPoint two = Edges.of(Edges.ONE + Edges.ONE);
        Edges.due("lightFor(1, 384)", two.lightFor(1, 384), 0);
    }

    /** For every n, by each LIGHT tried in turn. */
    private static void leastLights(String modules, int light) {
        SunPoint s = Edges.of(modules);
        SunPoint tried = Edges.of(modules);
        s.light(0, light);
        int[] best = new int[101];
        for (int v = 0; v <= 100; v++) {
            tried.light(0, v);
            best[v] = tried.best(1);
        }
        for (int n = 0; n <= best[100] + 2; n++) {
            int least = 0;
            while (least <= 100 && best[least] < n) {
                least++;
            }
            Edges.due("lightFor(0, " + n + ") of \"" + modules + "\"", s.lightFor(0, n), least > 100 ? -2 : least);
        }
        Edges.due("LIGHT stays", s.module(0, 2), light);
    }

    private static void darkest() {
        Edges.sentence(22, "The MODULE whose shadeOf() is greatest, the first; -2: there are no MODULES.");
        Edges.due("darkest() without MODULES", new SunPoint().darkest(), -2);
        SunPoint s = Edges.of(Edges.times(6, "module 50 90;"));
        Edges.due("darkest(), all alike", s.darkest(), 0);
        s.light(5, 99);
        Edges.due("darkest(), the last", s.darkest(), 5);
        s.light(3, 99);
        Edges.due("darkest(), the first of two", s.darkest(), 3);
        s.light(4, 50);
        Edges.due("darkest()", s.darkest(), 4);
        Edges.due("darkest(), none in shade", Edges.of("module 50 100;module 500 100;").darkest(), 0);
        Edges.due("darkest() of one", Edges.of(Edges.ONE).darkest(), 0);
        Edges.due("darkest() without POWER", Edges.of("module 1 9;module 1 9;").darkest(), 0);
    }

    private static void bestShare() {
        Edges.sentence(39, "The SHARE 1 .. 99 by which POWER at SHARE times the greatest LIT by 100 is greatest now, the least such one;"
            + " -2: there are no MODULES.");
        Edges.due("bestShare() without MODULES", new SunPoint().bestShare(), -2);
        Edges.due("bestShare() without POWER", Edges.of("module 1 9;").bestShare(), 1);
        SunPoint s = Edges.of(Edges.ONE);
        Edges.due("bestShare()", s.bestShare(), 60);
        s.light(0, 0);
        Edges.due("bestShare() without light", s.bestShare(), 1);
        // The greatest LIT is 2: POINT 1 from 50 on.
        Edges.due("bestShare() at 1 of 2", Edges.of("module 2 99;").bestShare(), 50);
        // LIT 3 has 1 at 2 alone: 2 is 67 times 3 by 100.
        Edges.due("bestShare() at 2 of 3", Edges.of("module 3 10;").bestShare(), 67);
        // The greatest LIT is 8: 3 at POINTS 2, 3, 5; 25 times 8 is 200.
        SunPoint two = Edges.of(Edges.TWO);
        Edges.due("bestShare()", two.bestShare(), 25);
        two.light(1, 50);
        // LIT 4 and 4: at 2 there are 14 VOLTS, at 3 8; 50 times 4 is 200.
        Edges.due("bestShare() now", two.bestShare(), 50);
        // 1 times 999 by 100 is 9, where there is POWER; 2 times that is beyond it.
        SunPoint far = Edges.of("module 10 999;module 999 1;");
        Edges.due("power(9)", far.power(9), 9 * 189 / 10);
        Edges.due("bestShare() of 1", far.bestShare(), 1);
        SunPoint near = Edges.of("module 999 999;");
        int most = 1;
        for (int share = 1; share <= 99; share++) {
            most = near.power(share * 999 / 100) > near.power(most * 999 / 100) ? share : most;
        }
        Edges.due("bestShare()", near.bestShare(), most);
    }

    private static void slope() {
        Edges.sentence(40, "POWER at x 0 .. 998 and 1, less POWER at x; -9999999: no such x.");
        SunPoint s = Edges.of("module 999 999;");
        Edges.due("slope(0)", s.slope(0), 99);
        Edges.due("slope(998)", s.slope(998), -99);
        for (int x = 0; x <= 998; x++) {
            Edges.due("slope(" + x + ")", s.slope(x), s.power(x + 1) - s.power(x));
        }
        for (int x : new int[] {-1, -2, 999, 1000, Edges.MIN, Edges.MAX, Edges.MAX - 1}) {
            Edges.due("slope(" + x + ")", s.slope(x), -9999999);
            Edges.due("slope(" + x + ") without MODULES", new SunPoint().slope(x), -9999999);
        }
        Edges.due("slope(998) without MODULES", new SunPoint().slope(998), 0);
        Edges.due("slope(0) without MODULES", new SunPoint().slope(0), 0);
    }
}
