import java.util.NoSuchElementException;

/** For each promise of the document: ordinary inputs, edges, wrong inputs, with answers reckoned by hand. */
public final class PromiseTest {
    /** POWER at x is x times (100 less x times x by 100, rounded up) by 10: 39 at 4, 79 at 8, 384 at 60. */
    private static final String ONE = "module 100 100;";
    /** POWER is 0 1 3 3 2 3 2 1 0: two TOPS. */
    private static final String TWO = "module 4 10;module 8 10;";

    private static int wrong = 0;
    private static int checks = 0;
    private static int promise = 0;

    public static void main(String[] args) {
        for (promise = 1; promise <= 46; promise++) {
            int before = checks;
            test();
            if (checks == before) {
                wrong++;
                System.out.println("promise " + promise + ": nothing is checked");
            }
        }
        System.out.println(checks + " checks of 46 promises, " + wrong + " wrong");
        System.exit(wrong == 0 ? 0 : 1);
    }

    private static void test() {
        switch (promise) {
            case 1: newObject(); break;
            case 2: feed(); break;
            case 3: text(); break;
            case 4: fault(); break;
            case 5: ticks(); follower(); scans(); battery(); inverter(); break;
            case 6: light(); break;
            case 7: grid(); break;
            case 8: tune(); break;
            case 9: scan(); break;
            case 10: told(); break;
            case 11: settle(); break;
            case 12: module(); break;
            case 13: volts(); break;
            case 14: power(); break;
            case 15: tops(); break;
            case 16: top(); break;
            case 17: best(); break;
            case 18: band(); break;
            case 19: climbed(); break;
            case 20: shadeOf(); break;
            case 21: lightFor(); break;
            case 22: darkest(); break;
            case 23: now(); break;
            case 24: sum(); break;
            case 25: past(); break;
            case 26: near(); break;
            case 27: longestAway(); break;
            case 28: ripple(); break;
            case 29: average(); break;
            case 30: worst(); break;
            case 31: comes(); break;
            case 32: cancel(); break;
            case 33: ifTicks(); break;
            case 34: firstSeen(); break;
            case 35: firstFloat(); break;
            case 36: leastPush(); break;
            case 37: bestStep(); break;
            case 38: bestWay(); break;
            case 39: bestShare(); break;
            case 40: slope(); break;
            case 41: firstFull(); break;
            case 42: seenBy(); break;
            case 43: blind(); break;
            case 44: bestGap(); break;
            case 45: ifNear(); break;
            default: count(); break;
        }
    }

    // ---------------------------------------------------------------- helpers

    private static void due(String call, long got, long want) {
        checks++;
        if (got != want) {
            wrong++;
            System.out.println("promise " + promise + ": " + call + " answered " + got + ", due is " + want);
        }
    }

    /** Feeds a text, blanks behind it, and answers how long it is. */
    private static int fed(SunPoint s, String text) {
        for (int i = 0; i < text.length(); i += 20) {
            int[] five = new int[5];
            for (int k = 0; k < 20; k++) {
                five[k / 4] = five[k / 4] << 8 | (i + k < text.length() ? text.charAt(i + k) : 32);
            }
            s.feed(five[0], five[1], five[2], five[3], five[4]);
        }
        return text.length();
    }

    private static SunPoint of(String text) {
        SunPoint s = new SunPoint();
        int lines = s.text(fed(s, text));
        int ends = 0;
        for (char c : text.toCharArray()) {
            ends += c == ';' ? 1 : 0;
        }
        due("text of \"" + text + "\"", lines, ends);
        return s;
    }

    private static void refused(String text, int fault, int place) {
        SunPoint s = of(ONE);
        due("text(\"" + text + "\")", s.text(fed(s, text)), SunPoint.NONE);
        due("fault(0) of \"" + text + "\"", s.fault(0), fault);
        due("fault(1) of \"" + text + "\"", s.fault(1), place);
        due("count(0) behind \"" + text + "\"", s.count(0), 1);
        due("count(3) behind \"" + text + "\"", s.count(3), 0);
    }

    private static void state(SunPoint s, int first, int... values) {
        for (int i = 0; i < values.length; i++) {
            due("now(" + (first + i) + ")", s.now(first + i), values[i]);
        }
    }

    /** Of the latest TICK. */
    private static void row(SunPoint s, int... values) {
        for (int i = 0; i < values.length; i++) {
            due("past(0, " + i + ") of TICK " + s.now(0), s.past(0, i), values[i]);
        }
    }

    private static String repeat(String text, int n) {
        StringBuilder s = new StringBuilder();
        for (int i = 0; i < n; i++) {
            s.append(text);
        }
        return s.toString();
    }

    // ---------------------------------------------------------------- TAPE and TEXT

    private static void newObject() {
        SunPoint s = new SunPoint();
        for (int what = 0; what < 4; what++) {
            due("count(" + what + ")", s.count(what), 0);
        }
        due("fault(0)", s.fault(0), 0);
        due("fault(1)", s.fault(1), -1);
        state(s, 0, 0, 0, 1, 4, 0, 0, 0, 0, 0, 0, 0, 1, 1, 50000, 50000, 0, 0, 0);
        due("best(1)", s.best(1), 0);
        due("NONE", SunPoint.NONE, -1);
    }

    private static void feed() {
        SunPoint s = new SunPoint();
        for (int i = 1; i <= 45; i++) {
            due("feed " + i, s.feed(0x20202020, 0x20202020, 0x20202020, 0x20202020, 0x20202020), 20 * i);
        }
        due("feed 46", s.feed(0, 0, 0, 0, 0), -1);
        due("count(3)", s.count(3), 900);
        due("text(900)", s.text(900), 0);
        due("count(3)", s.count(3), 0);
        // "modu" "le 4" " 10;" behind it: the highest byte of each number goes first.
        due("feed", s.feed(0x6d6f6475, 0x6c652034, 0x2031303b, 0x20202020, 0x20202020), 20);
        due("text(12)", s.text(12), 1);
        // The byte 255 (of -1) is no TOKEN.
        s.feed(0x20202020, -1, 0x20202020, 0, 0);
        due("text(20)", s.text(20), -1);
        due("fault(1)", s.fault(1), 4);
    }

    private static void text() {
        SunPoint s = new SunPoint();
        due("text(0)", s.text(0), 0);
        due("text(1)", s.text(1), -2);
        due("text(-1)", s.text(-1), -2);
        fed(s, ONE);
        due("text(21)", s.text(21), -2);
        due("text(-1)", s.text(-1), -2);
        due("text(MAX)", s.text(Integer.MAX_VALUE), -2);
        due("count(3)", s.count(3), 20);
        due("text(15)", s.text(15), 1);
        due("count(3)", s.count(3), 0);
        s.ticks(3);
        s.light(0, 50);
        s.tune(51000);
        s.grid(0);
        s.settle(9, 77);
        s.scan();
        // A FAULT empties the TAPE and leaves all else.
        due("a FAULT", s.text(fed(s, "module 1")), -1);
        due("count(3)", s.count(3), 0);
        state(s, 0, 3, 12, 1, 8, 0, 117, 1, 3, 235);
        due("told(9)", s.told(9), 77);
        due("count(2)", s.count(2), 3);
        // A good one makes all anew.
        due("text", s.text(fed(s, "\n module\n5 6 ; module 007 0010;\n\n")), 2);
        state(s, 0, 0, 0, 1, 4, 0, 0, 0, 0, 0, 0, 0, 1, 1, 50000, 50000, 0, 0, 0);
        due("told(9)", s.told(9), 50);
        due("count(2)", s.count(2), 0);
        due("sum(0)", s.sum(0), 0);
        due("module(1, 0)", s.module(1, 0), 7);
        due("module(1, 1)", s.module(1, 1), 10);
        due("module(0, 2)", s.module(0, 2), 100);
        // Only the first n bytes are read.
        fed(s, "module 5 6;module 8 9; x");
        due("text(11)", s.text(11), 1);
        due("count(0)", s.count(0), 1);
        SunPoint all = of(TWO + "way 1 99;follow 64 9 200 500 100;inverter 5000 20 1000 99 99999;stages 2000 2000 100 200"
            + " 99999;battery 99999 99999 999;at 9999 light 1 100;at 1 grid 1;at 1 tune 55000;");
        int[] most = {99999, 999, 2000, 2000, 100, 200, 99999, 5000, 20, 1000, 99, 99999, 64, 9, 200, 500, 100, 1, 99};
        for (int i = 0; i < 19; i++) {
            due("told(" + i + ")", all.told(i), most[i]);
        }
        state(all, 3, 64);
        state(all, 8, 99999);
        SunPoint least = of("module 1 1;battery 1000 0 0;stages 1100 1100 0 1 0;inverter 1 1 0 1 1;follow 1 1 10 0 0;"
            + "way 0 1;at 1 light 0 0;at 1 grid 0;at 1 tune 45000;");
        int[] few = {1000, 0, 1100, 1100, 0, 1, 0, 1, 1, 0, 1, 1, 1, 1, 10, 0, 0, 0, 1};
        for (int i = 0; i < 19; i++) {
            due("told(" + i + ")", least.told(i), few[i]);
        }
        due("an empty TEXT", s.text(0), 0);
        due("count(0)", s.count(0), 0);
        for (int n = 1; n <= 96; n += 5) {
            anew(n);
        }
        due("24 at", of(ONE + repeat("at 1 grid 0;", 24)).count(1), 24);
    }

    /** An object that did n TICKS of all there is to do, and gets another TEXT, is as one that is new. */
    private static void anew(int n) {
        String text = TWO + "follow 3 2 10 0 0;at 2 light 0 50;";
        SunPoint fresh = of(text);
        SunPoint s = of("module 100 900;module 300 900;module 300 900;battery 1000 900 7;stages 1390 1200 90 2 9;"
            + "inverter 10 3 50 2 70;follow 9 3 30 40 9;way 0 33;at 9 grid 0;at 9 tune 46000;at 30 grid 1;"
            + "at 60 grid 0;at 75 grid 1;at 70 light 1 5;at 9999 light 0 0;");
        s.ticks(n);
        s.settle(1, 999);
        s.bestGap(9);
        due("text", s.text(fed(s, text)), 4);
        for (int round = 0; round < 3; round++) {
            for (int what = 0; what < 18; what++) {
                due("now(" + what + ") anew", s.now(what), fresh.now(what));
            }
            for (int what = 0; what < 11; what++) {
                due("sum(" + what + ") anew", s.sum(what), fresh.sum(what));
            }
            for (int what = 0; what < 19; what++) {
                due("told(" + what + ") anew", s.told(what), fresh.told(what));
            }
            for (int what = 0; what < 4; what++) {
                due("count(" + what + ") anew", s.count(what), fresh.count(what));
            }
            for (int x = 0; x < 1000; x += round == 0 ? 1 : 50) {
                due("power(" + x + ") anew", s.power(x), fresh.power(x));
            }
            due("ticks(9) anew", s.ticks(9), fresh.ticks(9));
            due("settle anew", s.settle(17, 2), fresh.settle(17, 2));
        }
    }

    private static void fault() {
        SunPoint s = new SunPoint();
        due("fault(2)", s.fault(2), -1);
        due("fault(-1)", s.fault(-1), -1);
        s.text(fed(s, "module 0 1;"));
        due("fault(0)", s.fault(0), 2);
        due("fault(1)", s.fault(1), 7);
        s.text(1);
        due("fault(0) behind a -2", s.fault(0), 2);
        s.text(fed(s, ONE));
        due("fault(0)", s.fault(0), 0);
        due("fault(1)", s.fault(1), -1);
        // 1: no TOKEN, can't stand there, more must come
        refused("#", 1, 0);
        refused(";", 1, 0);
        refused("5;", 1, 0);
        refused("modul 5 5;", 1, 0);
        refused("modules 5 5;", 1, 0);
        refused("modulez 5 5;", 1, 0);
        refused("nodule 5 5;", 1, 0);
        refused("Module 5 5;", 1, 0);
        refused("module 5 5;\tmodule 5 5;", 1, 11);
        refused("module -5 5;", 1, 7);
        refused("module 5;", 1, 8);
        refused("module 5 5 5;", 1, 11);
        refused("module 5 5 module", 1, 11);
        refused("module at 5;", 1, 7);
        refused("module 5 5", 1, 10);
        refused("module 5 5  ", 1, 12);
        refused("module", 1, 6);
        refused("light 0 5;", 1, 0);
        refused("battery 1000 0 0;", 1, 0);
        refused("stages 1400 1300 80 20 100;", 1, 0);
        refused("inverter 500 3 50 10 5000;", 1, 0);
        refused("follow 4 3 50 0 0;", 1, 0);
        refused("way 0 75;", 1, 0);
        refused("at 5 grid 0;", 1, 0);
        refused("module 5 5;way 0 75;module 5 5;", 1, 20);
        refused("module 5 5;at 5 grid 0;module 5 5;", 1, 23);
        refused("module 5 5;at 5 grid 0;way 0 75;", 1, 23);
        refused("module 5 5;at 5 grid 0;battery 1000 0 0;", 1, 23);
        refused("module 5 5;at 5 way 0;", 1, 16);
        refused("module 5 5;at 5 5 0;", 1, 16);
        refused("module 5 5;at 5 lights 0 0;", 1, 16);
        refused("module 5 5;at 5 grid;", 1, 20);
        refused("module 5 5;at 5", 1, 15);
        refused("module 5 5;at 5;", 1, 15);
        refused("module 5 5;at 5 light 0;", 1, 23);
        refused("module 5 5;grid 0;", 1, 11);
        // 2: too much
        refused("module 1000 0;", 2, 7);
        refused("module 5 0;", 2, 9);
        refused("module 5 1000;", 2, 9);
        refused("module 5 99999999999999999999999;", 2, 9);
        refused("module 5 4294967297;", 2, 9);
        refused(repeat("module 5 5;", 7), 2, 66);
        refused(ONE + repeat("at 1 grid 0;", 25), 2, 15 + 24 * 12);
        refused(ONE + "battery 999 0 0;", 2, 23);
        refused(ONE + "battery 100000 0 0;", 2, 23);
        refused(ONE + "battery 1000 1001 0;", 2, 28);
        refused(ONE + "battery 1000 1000 1000;", 2, 33);
        refused(ONE + "stages 1099 1099 80 20 100;", 2, 22);
        refused(ONE + "stages 2001 1100 80 20 100;", 2, 22);
        refused(ONE + "stages 1400 1401 80 20 100;", 2, 27);
        refused(ONE + "stages 1400 1099 80 20 100;", 2, 27);
        refused(ONE + "stages 1400 1400 101 20 100;", 2, 32);
        refused(ONE + "stages 1400 1400 80 201 100;", 2, 35);
        refused(ONE + "stages 1400 1400 80 0 100;", 2, 35);
        refused(ONE + "stages 1400 1400 80 20 100000;", 2, 38);
        refused(ONE + "inverter 0 3 50 10 5000;", 2, 24);
        refused(ONE + "inverter 5001 3 50 10 5000;", 2, 24);
        refused(ONE + "inverter 500 0 50 10 5000;", 2, 28);
        refused(ONE + "inverter 500 21 50 10 5000;", 2, 28);
        refused(ONE + "inverter 500 3 1001 10 5000;", 2, 30);
        refused(ONE + "inverter 500 3 50 0 5000;", 2, 33);
        refused(ONE + "inverter 500 3 50 100 5000;", 2, 33);
        refused(ONE + "inverter 500 3 50 10 0;", 2, 36);
        refused(ONE + "inverter 500 3 50 10 100000;", 2, 36);
        refused(ONE + "follow 0 3 50 0 0;", 2, 22);
        refused(ONE + "follow 65 3 50 0 0;", 2, 22);
        refused(ONE + "follow 4 0 50 0 0;", 2, 24);
        refused(ONE + "follow 4 10 50 0 0;", 2, 24);
        refused(ONE + "follow 4 3 9 0 0;", 2, 26);
        refused(ONE + "follow 4 3 201 0 0;", 2, 26);
        refused(ONE + "follow 4 3 50 501 0;", 2, 29);
        refused(ONE + "follow 4 3 50 0 101;", 2, 31);
        refused(ONE + "way 3 50;", 2, 19);
        refused(ONE + "way 0 0;", 2, 21);
        refused(ONE + "way 0 100;", 2, 21);
        refused(ONE + "at 0 grid 0;", 2, 18);
        refused(ONE + "at 10000 grid 0;", 2, 18);
        refused(ONE + "at 5 grid 2;", 2, 25);
        refused(ONE + "at 5 light 1 0;", 2, 26);
        refused(ONE + "at 5 light 0 101;", 2, 28);
        refused(ONE + "at 5 tune 44999;", 2, 25);
        refused(ONE + "at 5 tune 55001;", 2, 25);
        // 3: told already; of one place the least
        refused(ONE + "way 0 75;way 0 75;", 3, 24);
        refused(ONE + "battery 1000 0 0;battery", 3, 32);
        refused(ONE + "stages 1400 1350 80 20 100;stages", 3, 42);
        refused(ONE + "inverter 500 3 50 10 5000;inverter", 3, 41);
        refused(ONE + "follow 4 3 50 0 0;way 0 75;follow", 3, 42);
        refused(ONE + "way 0 75;at 5 grid 0;way 0 75;", 1, 36);
        refused(repeat("module 5 5;", 6) + "way 0 75;module 5 5;", 1, 75);
        // the first along the text
        refused("module 5 0 #;", 2, 9);
        refused("module 5 # 0;", 1, 9);
    }

    // ---------------------------------------------------------------- what a TICK does

    private static void ticks() {
        SunPoint none = new SunPoint();
        due("ticks(1) without MODULES", none.ticks(1), -1);
        SunPoint s = of(ONE);
        due("ticks(0)", s.ticks(0), -1);
        due("ticks(-1)", s.ticks(-1), -1);
        due("ticks(501)", s.ticks(501), -1);
        due("ticks(MAX)", s.ticks(Integer.MAX_VALUE), -1);
        due("now(0)", s.now(0), 0);
        due("ticks(3)", s.ticks(3), 39 + 79 + 117);
        s.settle(17, 2);
        s.settle(18, 60);
        due("ticks(500)", s.ticks(500), 500 * 384);
        for (int i = 0; i < 18; i++) {
            s.ticks(500);
        }
        due("now(0)", s.now(0), 9503);
        due("ticks(497)", s.ticks(497), -1);
        due("ticks(496)", s.ticks(496), 496 * 384);
        due("ticks(1) at 9999", s.ticks(1), -1);
        due("now(0)", s.now(0), 9999);
        due("sum(0)", s.sum(0), 235 + 9996L * 384);
        // What comes, comes ahead of the FOLLOWER, in the order of the TEXT.
        SunPoint c = of(ONE + "follow 20 9 50 0 0;at 2 light 0 10;at 2 light 0 0;at 1 light 0 50;");
        due("ticks(1)", c.ticks(1), 20 * 84 / 10);
        due("ticks(1)", c.ticks(1), 0);
        due("module(0, 2)", c.module(0, 2), 0);
    }

    private static void follower() {
        // CLIMB: the STEP learns, at 0 and beyond the end it stays within.
        SunPoint s = of(ONE + "follow 32 2 50 0 0;");
        s.ticks(1);
        row(s, 32, 32 * 89 / 10);
        state(s, 1, 32, 1, 32, 1);
        s.ticks(1);
        row(s, 64, 64 * 59 / 10);
        state(s, 1, 64, 1, 64, 0, 377);
        s.ticks(1);
        row(s, 128, 0);
        state(s, 1, 128, -1, 32, 0, 0);
        s.ticks(1);
        state(s, 1, 96, -1, 32, 1, 96 * 7 / 10);
        s.ticks(4);
        // 64 (STEP 64), 0 (less: up, 32), 32 (more, STREAK 1), 64 (more, STEP 64)
        state(s, 1, 64, 1, 64, 0, 377);
        SunPoint d = of("module 8 10;follow 1 1 50 0 0;");
        // 1 (0, not more: down), 0 (not more: up), 1 (0), 0
        d.ticks(1);
        state(d, 1, 1, -1, 1, 0, 0);
        d.ticks(1);
        state(d, 1, 0, 1, 1, 0, 0);
        SunPoint e = of("module 999 999;follow 64 1 50 0 0;");
        e.ticks(20);
        due("within", e.now(1) <= 999 ? 1 : 0, 1);
        e.light(0, 0);
        e.settle(13, 9);
        // All is 0: up and down by a STEP that is 1 in the end.
        e.ticks(9);
        state(e, 3, 1, 0, 0);
        slopes();
        SunPoint w = of(ONE + "module 50 10;follow 7 1 50 0 0;way 2 60;");
        due("SHARE", w.ticks(2), 2 * w.power(60));
        state(w, 1, 60, 1, 7, 0, w.power(60));
        w.settle(18, 99);
        w.light(0, 51);
        w.ticks(1);
        state(w, 1, 50);
    }

    private static void slopes() {
        SunPoint s = of(ONE + "follow 40 2 50 0 0;way 1 50;");
        s.ticks(1);
        state(s, 1, 40, 1, 40, 1, 40 * 84 / 10);
        s.ticks(1);
        // It goes 40, as STEP was; then STEP is twice itself.
        state(s, 1, 80, 1, 64, 0, 80 * 36 / 10);
        s.ticks(1);
        state(s, 1, 16, -1, 32, 0, 16 * 97 / 10);
        s.ticks(1);
        state(s, 1, 48, 1, 16, 0, 48 * 76 / 10);
        SunPoint top = of(ONE + "follow 60 3 50 0 0;way 1 50;");
        top.ticks(1);
        state(top, 1, 60, 1, 60, 1, 384);
        // Neither side has more: it stays, STEP is half of itself.
        top.ticks(1);
        state(top, 1, 60, 1, 30, 0, 384);
        top.ticks(5);
        state(top, 1, 60, 1, 1, 0, 384);
        // Of like ones down: at 4 (POWER 2) both neighbours have 3.
        SunPoint like = of(TWO + "follow 4 3 50 0 0;way 1 50;");
        like.ticks(1);
        state(like, 1, 4, 1, 4, 1);
        like.ticks(1);
        state(like, 1, 0, -1, 2, 0, 0);
    }

    private static void scans() {
        SunPoint s = of(ONE + "follow 5 3 200 0 0;");
        s.ticks(2);
        due("scan()", s.scan(), 1);
        int[] points = {0, 200, 400, 600, 800};
        for (int p : points) {
            s.ticks(1);
            state(s, 1, p, 1, 5, 2, 99, 1, 2);
            row(s, p, 0);
            due("past(0, 9)", s.past(0, 9), 1);
        }
        // All of the SCAN was 0: the first POINT of it.
        s.ticks(1);
        state(s, 1, 0, 1, 5, 0, 0, 0, 0);
        due("past(0, 9)", s.past(0, 9), 1);
        due("sum(7)", s.sum(7), 1);
        // 999 itself still belongs to the SCAN.
        SunPoint e = of(ONE + "follow 5 3 111 0 0;");
        e.scan();
        e.ticks(10);
        state(e, 1, 999);
        state(e, 6, 1);
        e.ticks(1);
        state(e, 1, 0);
        state(e, 6, 0);
        // The best POINT as GIVEN was then, though the LIGHT is another when the SCAN ends.
        SunPoint l = of(ONE + "follow 5 3 20 0 0;at 4 light 0 0;");
        l.scan();
        l.ticks(50);
        state(l, 1, 980);
        due("ticks(1)", l.ticks(1), 0);
        state(l, 1, 40, 1, 5, 0, 0, 0, 0);
        // EVERY: in the second TICK it begins, from the third on it goes.
        SunPoint v = of(ONE + "follow 5 3 200 2 0;");
        v.ticks(1);
        state(v, 6, 0, 1);
        v.ticks(1);
        state(v, 6, 1, 2);
        due("past(0, 9)", v.past(0, 9), 0);
        state(v, 1, 10, 1, 5, 2, 99);
        v.ticks(1);
        state(v, 1, 0);
        v.ticks(5);
        state(v, 6, 0, 0);
        // DROP: GIVEN less than 50 in the hundred of LAST; half of it isn't less.
        SunPoint d = of("module 100 20;follow 10 9 200 0 50;at 2 light 0 0;");
        d.ticks(1);
        row(d, 10, 19);
        d.ticks(1);
        state(d, 5, 0, 1, 2);
        SunPoint h = of("module 12 10;follow 3 9 200 0 50;way 2 50;");
        due("at 6", h.ticks(1), 4);
        h.settle(18, 25);
        due("at 3", h.ticks(1), 2);
        state(h, 6, 0);
        h.light(0, 0);
        h.ticks(1);
        state(h, 6, 1);
        // 360 behind 374 is less by more than 3 in the hundred, and by less than 4.
        SunPoint three = of(ONE + "follow 4 3 50 0 3;");
        three.ticks(8);
        state(three, 5, 360, 1);
        SunPoint four = of(ONE + "follow 4 3 50 0 4;");
        four.ticks(8);
        state(four, 5, 360, 0);
        SunPoint one = of(ONE + "follow 4 3 50 0 1;");
        one.ticks(8);
        state(one, 5, 360, 1);
        SunPoint every = of(ONE + "follow 4 3 200 1 0;");
        every.ticks(1);
        state(every, 5, 39, 1, 1);
        // What a SCAN leaves: STEP as told, up; the TICK behind it is none of it.
        SunPoint back = of(ONE);
        back.ticks(8);
        state(back, 1, 68, -1, 8, 0, 360, 0, 8);
        back.scan();
        back.ticks(21);
        state(back, 1, 50, 1, 4, 0, 375, 0, 0);
        back.ticks(1);
        state(back, 1, 54, 1, 4, 1, 378, 0, 1);
        due("past(0, 9)", back.past(0, 9), 0);
        due("past(1, 9)", back.past(1, 9), 1);
        due("past(21, 9)", back.past(21, 9), 1);
        due("past(22, 9)", back.past(22, 9), 0);
        due("sum(7)", back.sum(7), 1);
        // With DROP 100 none begins so: nothing is less than 0.
        SunPoint n = of(ONE + "follow 10 9 200 0 100;at 2 light 0 0;");
        n.ticks(2);
        state(n, 6, 0);
        // In a SCAN a settled GAP counts from then on.
        SunPoint g = of(ONE + "follow 4 3 10 0 0;");
        g.scan();
        g.ticks(3);
        g.settle(14, 33);
        g.ticks(1);
        state(g, 1, 53);
        // The first of like ones: at 50 and at 60 there is 30.
        SunPoint f = of("module 100 8;follow 4 3 10 0 0;");
        f.scan();
        f.ticks(101);
        state(f, 1, 50, 1, 4, 0, 30, 0, 0);
    }

    private static void battery() {
        // BULK takes all; at CAP HELD begins; there is nothing more to take, so FLOAT begins by TAPER.
        SunPoint s = of(ONE + "battery 1000 900 0;way 2 60;");
        s.ticks(1);
        row(s, 60, 384, 384, 100, 284, 0, 50000, 1);
        state(s, 8, 1000, 1, 0);
        s.ticks(1);
        row(s, 60, 384, 384, 0, 384, 0, 50000, 2);
        state(s, 8, 1000, 2, 1);
        // DRAIN takes no more than there is.
        s.settle(1, 150);
        s.ticks(1);
        // BASE 1100 + 300 * 850 / 1000 = 1355, LOW 1350: nothing is taken
        row(s, 60, 384, 384, 0);
        state(s, 8, 850, 2);
        s.ticks(1);
        // BASE 1310: 20 times 40 and 19 at most; CHARGE was 70 in the hundred, is 1000 again: FLOAT goes on
        row(s, 60, 384, 384, 300);
        state(s, 8, 1000, 2);
        s.settle(1, 999);
        s.ticks(1);
        row(s, 60, 384, 384, 384);
        state(s, 8, 385, 0);
        due("sum(10)", s.sum(10), 1);
        due("sum(5)", s.sum(5), 150 + 150 + 999);
        s.ticks(1);
        due("sum(5)", s.sum(5), 150 + 150 + 999 + 385);
        // HELD begins by BASE and TAKEN by 20: 1100 + 300 * 500 / 1000 = 1250, 384 by 20 is 19
        SunPoint h = of(ONE + "battery 1000 500 0;stages 1269 1100 80 2 0;way 2 60;");
        h.ticks(1);
        row(h, 60, 384, 384, 384, 0, 0, 50000, 1);
        SunPoint k = of(ONE + "battery 1000 500 0;stages 1270 1100 80 2 0;way 2 60;");
        k.ticks(1);
        row(k, 60, 384, 384, 384, 0, 0, 50000, 0);
        // In HELD: 20 times (1269 less 1365) is below 0, so 0; FLOAT by HOLD 2, as TAPER is 0.
        h.ticks(1);
        row(h, 60, 384, 384, 0, 384, 0, 50000, 1);
        state(h, 8, 884, 1, 1);
        h.ticks(1);
        row(h, 60, 384, 384, 0, 384, 0, 50000, 2);
        state(h, 8, 884, 2, 2);
        // In HELD with HIGH just at BASE 19 are taken.
        SunPoint n = of(ONE + "battery 10000 0 0;stages 1119 1119 80 9 0;way 2 60;");
        n.ticks(1);
        row(n, 60, 384, 384, 384, 0, 0, 50000, 1);
        // BASE is 1111 now: 20 times 8 and 19
        n.ticks(1);
        row(n, 60, 384, 384, 179, 205);
        // TAPER: TAKEN below it and GIVEN not.
        SunPoint t = of(ONE + "battery 10000 0 0;stages 1119 1119 80 9 180;way 2 60;");
        t.ticks(2);
        row(t, 60, 384, 384, 179, 205, 0, 50000, 2);
        SunPoint u = of(ONE + "battery 10000 0 0;stages 1119 1119 80 9 385;way 2 60;");
        u.ticks(2);
        row(u, 60, 384, 384, 179, 205, 0, 50000, 1);
        SunPoint m = of(ONE + "battery 10000 0 0;stages 1119 1119 80 9 384;way 2 60;");
        m.ticks(2);
        row(m, 60, 384, 384, 179, 205, 0, 50000, 2);
        // BASE is 1100 and 298, 384 by 20 is 19.
        SunPoint big = of(ONE + "battery 99999 99400 0;stages 1417 1100 80 2 0;way 2 60;");
        big.ticks(1);
        state(big, 9, 1);
        SunPoint bigger = of(ONE + "battery 99999 99400 0;stages 1418 1100 80 2 0;way 2 60;");
        bigger.ticks(1);
        state(bigger, 9, 0);
        // LONG is 0 again when HELD begins again.
        SunPoint again = of(ONE + "battery 1000 1000 0;stages 1400 1100 80 3 0;way 2 60;");
        again.ticks(4);
        state(again, 9, 2, 3);
        again.settle(1, 300);
        again.ticks(1);
        state(again, 8, 700, 0, 3);
        again.settle(1, 0);
        again.ticks(1);
        state(again, 8, 1000, 1, 0);
        due("sum(8)", again.sum(8), 2);
        // BACK: just as much isn't less.
        SunPoint b = of(ONE + "battery 1000 1000 0;stages 1400 1100 80 1 0;way 2 60;");
        b.ticks(2);
        state(b, 9, 2);
        b.settle(1, 200);
        b.ticks(1);
        state(b, 8, 800, 2);
        b.settle(1, 1);
        b.ticks(1);
        state(b, 8, 799, 0);
    }

    private static void inverter() {
        SunPoint s = of(ONE + "battery 1000 1000 0;inverter 400 2 100 3 150;way 2 60;");
        // OUT grows by RAMP from TICK to TICK; what is left is SPILLED.
        s.ticks(1);
        row(s, 60, 384, 384, 0, 150, 234, 50000, 1, 1);
        s.ticks(1);
        row(s, 60, 384, 384, 0, 300, 84);
        s.ticks(1);
        row(s, 60, 384, 384, 0, 384, 0);
        s.light(0, 50);
        s.ticks(1);
        due("less at once", s.past(0, 4), s.past(0, 1));
        s.light(0, 100);
        s.grid(0);
        s.tune(51000);
        // 50000 + 1000 / 8 + 100
        s.ticks(1);
        state(s, 14, 50225);
        // 50225 + 775 / 8 (96) + 100: farther than 400
        s.ticks(1);
        state(s, 14, 50421);
        state(s, 16, 1);
        s.ticks(1);
        // 50421 + 579 / 8 (72) + 100
        state(s, 11, 0, 0, 51000, 50593, 0, 0, 0);
        row(s, 60, 384, 384, 0, 0, 384, 50593, 2, 0);
        due("sum(6)", s.sum(6), 1);
        s.ticks(2);
        state(s, 14, 50593);
        state(s, 17, 0);
        s.grid(1);
        s.ticks(2);
        state(s, 17, 2);
        s.grid(0);
        s.ticks(1);
        state(s, 17, 0);
        s.grid(1);
        s.ticks(3);
        // In this TICK it was OFF still.
        row(s, 60, 384, 384, 0, 0, 384, 50000, 2, 1);
        state(s, 11, 1);
        s.ticks(1);
        row(s, 60, 384, 384, 0, 150, 234, 50000, 2, 1);
        // SEEN again, WAITED is 0 again.
        state(s, 17, 3);
        s.grid(0);
        s.ticks(3);
        state(s, 11, 0);
        state(s, 17, 0);
        // WINDOW: as far isn't farther; BAD is 0 again; below 50000 PUSH goes down.
        SunPoint w = of(ONE + "inverter 100 2 100 3 150;");
        w.grid(0);
        w.ticks(1);
        state(w, 14, 50100);
        state(w, 16, 0);
        w.ticks(1);
        // 50100 + (-100 / 8 = -12) + 100
        state(w, 14, 50188);
        state(w, 16, 1);
        w.grid(1);
        w.ticks(1);
        state(w, 14, 50000);
        state(w, 16, 0);
        w.grid(0);
        w.tune(49000);
        w.ticks(1);
        state(w, 14, 49775);
        w.settle(9, 0);
        w.tune(50000);
        // 225 by 8 is 28
        w.ticks(1);
        state(w, 14, 49803);
        state(w, 11, 0);
    }

    private static void light() {
        SunPoint s = of(TWO);
        due("light(1, 50)", s.light(1, 50), 100);
        due("light(1, 0)", s.light(1, 0), 50);
        due("light(1, 100)", s.light(1, 100), 0);
        due("light(2, 5)", s.light(2, 5), -1);
        due("light(-1, 5)", s.light(-1, 5), -1);
        due("light(1, 101)", s.light(1, 101), -1);
        due("light(1, -1)", s.light(1, -1), -1);
        due("module(1, 2)", s.module(1, 2), 100);
        due("best(1)", s.best(1), 3);
        s.light(0, 0);
        due("power(2)", s.power(2), 1);
    }

    private static void grid() {
        SunPoint s = new SunPoint();
        due("grid(0)", s.grid(0), 1);
        due("grid(1)", s.grid(1), 0);
        due("grid(2)", s.grid(2), -1);
        due("grid(-1)", s.grid(-1), -1);
        state(s, 12, 1);
    }

    private static void tune() {
        SunPoint s = new SunPoint();
        due("tune(45000)", s.tune(45000), 50000);
        due("tune(55000)", s.tune(55000), 45000);
        due("tune(55001)", s.tune(55001), -1);
        due("tune(44999)", s.tune(44999), -1);
        state(s, 13, 55000);
    }

    private static void scan() {
        due("scan() without MODULES", new SunPoint().scan(), -1);
        SunPoint s = of(ONE);
        due("scan()", s.scan(), 1);
        due("scan()", s.scan(), 0);
        s.ticks(2);
        due("scan()", s.scan(), 0);
        s.ticks(1);
        // It goes on, and doesn't begin anew.
        state(s, 1, 100);
        s.ticks(18);
        due("scan() behind it", s.scan(), 1);
        s.ticks(1);
        state(s, 1, 0);
        due("sum(7)", s.sum(7), 1);
    }

    private static void told() {
        SunPoint s = new SunPoint();
        int[] first = {10000, 0, 1400, 1350, 80, 20, 100, 500, 3, 50, 10, 5000, 4, 3, 50, 0, 0, 0, 75};
        for (int i = 0; i < 19; i++) {
            due("told(" + i + ")", s.told(i), first[i]);
        }
        due("told(19)", s.told(19), -1);
        due("told(-1)", s.told(-1), -1);
        SunPoint t = of(ONE + "battery 2000 7 8;stages 1500 1200 9 10 11;inverter 12 13 14 15 16;follow 17 8 19 20 21;way 2 22;");
        int[] then = {2000, 8, 1500, 1200, 9, 10, 11, 12, 13, 14, 15, 16, 17, 8, 19, 20, 21, 2, 22};
        for (int i = 0; i < 19; i++) {
            due("told(" + i + ")", t.told(i), then[i]);
        }
        state(t, 8, 7);
    }

    private static void settle() {
        int[] least = {1000, 0, 1100, 1100, 0, 1, 0, 1, 1, 0, 1, 1, 1, 1, 10, 0, 0, 0, 1};
        int[] most = {99999, 999, 2000, 2000, 100, 200, 99999, 5000, 20, 1000, 99, 99999, 64, 9, 200, 500, 100, 2, 99};
        SunPoint s = new SunPoint();
        for (int what = 0; what < 19; what++) {
            boolean may = what == 1 || what > 3;
            int was = s.told(what);
            due("settle(" + what + ", least)", s.settle(what, least[what]), may ? was : -1);
            due("settle(" + what + ", less)", s.settle(what, least[what] - 1), -1);
            due("settle(" + what + ", most)", s.settle(what, most[what]), may ? least[what] : -1);
            due("settle(" + what + ", more)", s.settle(what, most[what] + 1), -1);
            due("told(" + what + ")", s.told(what), may ? most[what] : was);
        }
        due("settle(19, 1)", s.settle(19, 1), -1);
        due("settle(-1, 1)", s.settle(-1, 1), -1);
        // STEP as told is another, STEP now stays.
        state(s, 3, 4);
    }

    // ---------------------------------------------------------------- the PANEL

    private static void module() {
        SunPoint s = of("module 7 9;module 333 444;");
        s.light(0, 50);
        int[] want = {7, 9, 50, 3};
        for (int what = 0; what < 4; what++) {
            due("module(0, " + what + ")", s.module(0, what), want[what]);
        }
        due("module(1, 1)", s.module(1, 1), 444);
        int[][] wrongOnes = {{2, 0}, {-1, 0}, {2, 4}, {Integer.MIN_VALUE, -1}, {0, 4}, {1, -1}, {0, Integer.MAX_VALUE}};
        for (int i = 0; i < wrongOnes.length; i++) {
            int thrown = 0;
            try {
                s.module(wrongOnes[i][0], wrongOnes[i][1]);
            } catch (IndexOutOfBoundsException e) {
                thrown = e.getClass() == IndexOutOfBoundsException.class ? 1 : 3;
            } catch (NoSuchElementException e) {
                thrown = 2;
            }
            due("module(" + wrongOnes[i][0] + ", " + wrongOnes[i][1] + ") throws", thrown, i < 4 ? 1 : 2);
        }
    }

    private static void volts() {
        SunPoint s = of(TWO);
        int[] want = {20, 18, 16, 12, 7, 6, 4, 2, 0, 0};
        for (int x = 0; x < 10; x++) {
            due("volts(" + x + ")", s.volts(x), want[x]);
        }
        due("volts(999)", s.volts(999), 0);
        due("volts(1000)", s.volts(1000), -1);
        due("volts(-1)", s.volts(-1), -1);
        s.light(0, 0);
        due("volts(0)", s.volts(0), 10);
        due("the most", of(repeat("module 999 999;", 6)).volts(0), 5994);
        due("volts(0) without MODULES", new SunPoint().volts(0), 0);
    }

    private static void power() {
        SunPoint s = of(TWO);
        int[] want = {0, 1, 3, 3, 2, 3, 2, 1, 0};
        for (int x = 0; x < 9; x++) {
            due("power(" + x + ")", s.power(x), want[x]);
        }
        due("power(999)", s.power(999), 0);
        due("power(1000)", s.power(1000), -1);
        due("power(-1)", s.power(-1), -1);
        due("power(MIN)", s.power(Integer.MIN_VALUE), -1);
        // 999 - 999 * 500 * 500 / 998001 is 748.7: 748 of each of six
        due("power(500)", of(repeat("module 999 999;", 6)).power(500), 500 * 6 * 748 / 10);
    }

    private static void tops() {
        SunPoint s = of(TWO);
        due("tops()", s.tops(), 2);
        // 0 0 1 2 2 3 2 1: what is like with more beside it is none.
        s.light(0, 0);
        due("tops()", s.tops(), 1);
        s.light(1, 0);
        due("tops()", s.tops(), 0);
        due("tops() without MODULES", new SunPoint().tops(), 0);
    }

    private static void top() {
        SunPoint s = of(TWO);
        int[][] want = {{2, 3, 2}, {5, 3, 1}, {-2, -2, -2}};
        for (int k = 0; k < 3; k++) {
            for (int what = 0; what < 3; what++) {
                due("top(" + k + ", " + what + ")", s.top(k, what), want[k][what]);
            }
        }
        due("top(MAX, 0)", s.top(Integer.MAX_VALUE, 0), -2);
        due("top(-1, 0)", s.top(-1, 0), -1);
        due("top(0, 3)", s.top(0, 3), -1);
        due("top(9, -1)", s.top(9, -1), -1);
        s.light(0, 0);
        due("top(0, 0)", s.top(0, 0), 5);
        due("top(1, 0)", s.top(1, 0), -2);
    }

    private static void best() {
        SunPoint s = of(TWO);
        due("best(0)", s.best(0), 2);
        due("best(1)", s.best(1), 3);
        due("best(2)", s.best(2), -1);
        due("best(-1)", s.best(-1), -1);
        SunPoint one = of(ONE);
        due("best(0)", one.best(0), 60);
        due("best(1)", one.best(1), 384);
        one.light(0, 0);
        due("best(0)", one.best(0), 0);
        due("best(1)", one.best(1), 0);
    }

    private static void band() {
        SunPoint s = of(TWO);
        int[][] want = {{100, 2, 5, 3}, {67, 2, 5, 3}, {66, 2, 6, 5}, {34, 2, 6, 5}, {33, 1, 7, 7}, {1, 1, 7, 7}};
        for (int[] w : want) {
            for (int what = 0; what < 3; what++) {
                due("band(" + w[0] + ", " + what + ")", s.band(w[0], what), w[what + 1]);
            }
        }
        due("band(0, 0)", s.band(0, 0), -1);
        due("band(101, 0)", s.band(101, 0), -1);
        due("band(101, 2)", s.band(101, 2), -1);
        due("band(50, 3)", s.band(50, 3), -1);
        due("band(50, -1)", s.band(50, -1), -1);
        SunPoint none = new SunPoint();
        due("band(50, 0)", none.band(50, 0), -2);
        due("band(50, 3)", none.band(50, 3), -1);
    }

    private static void climbed() {
        SunPoint s = of(TWO);
        int[] want = {2, 2, 2, 3, 3, 5, 5, 5, 5, 9};
        for (int x = 0; x < want.length; x++) {
            due("climbed(" + x + ")", s.climbed(x), want[x]);
        }
        due("climbed(999)", s.climbed(999), 999);
        due("climbed(1000)", s.climbed(1000), -1);
        due("climbed(-1)", s.climbed(-1), -1);
        // 0 0 1 2 2 3 2 1: it stays where neither side has more.
        s.light(0, 0);
        int[] then = {0, 3, 3, 3, 5, 5, 5, 5, 5};
        for (int x = 0; x < then.length; x++) {
            due("climbed(" + x + ")", s.climbed(x), then[x]);
        }
    }

    private static void shadeOf() {
        SunPoint s = of(TWO);
        due("shadeOf(0)", s.shadeOf(0), 0);
        s.light(1, 0);
        // 0 0 1 1 0: BEST is 1
        due("best(1)", s.best(1), 1);
        due("shadeOf(1)", s.shadeOf(1), 2);
        due("shadeOf(0)", s.shadeOf(0), 0);
        due("shadeOf(2)", s.shadeOf(2), -1);
        due("shadeOf(-1)", s.shadeOf(-1), -1);
        SunPoint one = of(ONE);
        due("shadeOf(0)", one.shadeOf(0), 0);
        one.light(0, 10);
        // LIT 10: at 6 there are 64 VOLTS
        due("best(1)", one.best(1), 6 * 64 / 10);
        due("shadeOf(0)", one.shadeOf(0), 384 - 38);
        due("module(1, 2)", s.module(1, 2), 0);
        due("best(1)", s.best(1), 1);
    }

    private static void lightFor() {
        SunPoint s = of(ONE);
        due("lightFor(0, 384)", s.lightFor(0, 384), 100);
        due("lightFor(0, 385)", s.lightFor(0, 385), -2);
        due("lightFor(0, 0)", s.lightFor(0, 0), 0);
        // LIT 1 gives 0 only; LIT 2: 1 * 75 / 10
        due("lightFor(0, 1)", s.lightFor(0, 1), 2);
        due("lightFor(0, 7)", s.lightFor(0, 7), 2);
        due("lightFor(0, 8)", s.lightFor(0, 8), 3);
        s.light(0, 0);
        due("lightFor(0, 7)", s.lightFor(0, 7), 2);
        due("lightFor(0, 9999999)", s.lightFor(0, 9999999), -2);
        due("lightFor(0, 10000000)", s.lightFor(0, 10000000), -1);
        due("lightFor(0, -1)", s.lightFor(0, -1), -1);
        due("lightFor(1, 5)", s.lightFor(1, 5), -1);
        due("lightFor(-1, 5)", s.lightFor(-1, 5), -1);
        due("module(0, 2)", s.module(0, 2), 0);
    }

    private static void darkest() {
        due("darkest() without MODULES", new SunPoint().darkest(), -2);
        SunPoint s = of(TWO);
        due("darkest()", s.darkest(), 0);
        s.light(1, 0);
        due("darkest()", s.darkest(), 1);
        SunPoint like = of("module 9 90;module 9 90;module 9 90;");
        like.light(1, 50);
        like.light(2, 50);
        due("darkest()", like.darkest(), 1);
        SunPoint little = of(ONE + "module 90 50;");
        little.light(1, 99);
        due("shadeOf(1) is above 0", little.shadeOf(1) > 0 ? 1 : 0, 1);
        due("darkest()", little.darkest(), 1);
    }

    // ---------------------------------------------------------------- what is and what was

    private static void now() {
        SunPoint s = of(ONE + "battery 2000 7 3;inverter 10 9 20 2 30;at 3 grid 0;at 3 tune 50400;");
        s.ticks(4);
        // at 4, 8, 12, 20: 39, 79, 117, 192; GRID 0 since the third: 50070, then 50070 + 41 + 20
        state(s, 0, 4, 20, 1, 8, 1, 192, 0, 4, 7 - 3 + 39 - 3 + 79 - 3 + 117 - 3 + 192, 0, 0, 1, 0, 50400, 50131, 0, 2, 0);
        due("now(18)", s.now(18), -10);
        due("now(-1)", s.now(-1), -10);
        due("now(MIN)", s.now(Integer.MIN_VALUE), -10);
    }

    private static void sum() {
        SunPoint s = of(ONE + "battery 1000 900 10;inverter 10 1 20 2 30;way 2 60;at 3 grid 0;at 4 grid 1;");
        s.ticks(6);
        // TAKEN: 110 (to CAP; HELD), 10 (FLOAT by TAPER), then BASE 1397 is above LOW: 0 each
        due("sum(0)", s.sum(0), 6 * 384);
        due("sum(1)", s.sum(1), 6 * 384);
        due("sum(2)", s.sum(2), 120);
        // OUT: 30, 60, 0 (seen), 0, 0 (OFF; ON behind it), 30
        due("sum(3)", s.sum(3), 120);
        due("sum(4)", s.sum(4), 6 * 384 - 240);
        due("sum(5)", s.sum(5), 60);
        due("sum(6)", s.sum(6), 1);
        due("sum(7)", s.sum(7), 0);
        due("sum(8)", s.sum(8), 1);
        due("sum(9)", s.sum(9), 1);
        due("sum(10)", s.sum(10), 0);
        due("sum(11)", s.sum(11), -1);
        due("sum(-1)", s.sum(-1), -1);
        s.settle(1, 300);
        s.scan();
        s.ticks(21);
        due("sum(7)", s.sum(7), 1);
        due("sum(10)", s.sum(10), 1);
        // Beyond what an int holds.
        SunPoint much = of(repeat("module 999 999;", 6) + "way 2 58;");
        long given = 0;
        for (int i = 0; i < 19; i++) {
            given += much.ticks(500);
        }
        due("sum(0)", much.sum(0), given);
        due("sum(0) is great", much.sum(0) > Integer.MAX_VALUE ? 1 : 0, 1);
        due("sum(1)", much.sum(1), 9500L * much.best(1));
    }

    private static void past() {
        SunPoint s = of(ONE + "battery 1000 900 0;");
        s.ticks(3);
        int[][] want = {{12, 117, 384, 0, 117, 0, 50000, 2, 1, 0}, {8, 79, 384, 61, 18, 0, 50000, 1, 1, 0},
            {4, 39, 384, 39, 0, 0, 50000, 0, 1, 0}};
        for (int i = 0; i < 3; i++) {
            for (int what = 0; what < 10; what++) {
                due("past(" + i + ", " + what + ")", s.past(i, what), want[i][what]);
            }
        }
        due("past(3, 0)", s.past(3, 0), -2);
        due("past(3, 10)", s.past(3, 10), -1);
        due("past(0, 10)", s.past(0, 10), -1);
        due("past(0, -1)", s.past(0, -1), -1);
        due("past(-1, 0)", s.past(-1, 0), -1);
        // BEST as LIGHT was then.
        s.light(0, 0);
        s.ticks(1);
        due("past(0, 2)", s.past(0, 2), 0);
        due("past(1, 2)", s.past(1, 2), 384);
        // The latest 100.
        s.ticks(95);
        due("past(98, 0)", s.past(98, 0), 4);
        due("past(99, 0)", s.past(99, 0), -2);
        s.ticks(1);
        due("past(99, 0)", s.past(99, 0), 4);
        due("past(100, 0)", s.past(100, 0), -2);
        s.ticks(1);
        due("past(99, 0)", s.past(99, 0), 8);
        due("past(97, 1)", s.past(97, 1), 0);
        due("past(98, 1)", s.past(98, 1), 117);
    }

    /** GIVEN was 384, 39, 384, 79, 117 (BEST 384), and then 0 (BEST 0). */
    private static SunPoint logged() {
        SunPoint s = of(ONE + "way 2 60;");
        int[] shares = {60, 4, 60, 8, 12};
        for (int share : shares) {
            s.settle(18, share);
            s.ticks(1);
        }
        s.light(0, 0);
        s.ticks(1);
        return s;
    }

    private static void near() {
        SunPoint s = logged();
        due("near(100)", s.near(100), 3);
        due("near(31)", s.near(31), 3);
        due("near(30)", s.near(30), 4);
        due("near(20)", s.near(20), 5);
        due("near(10)", s.near(10), 6);
        due("near(0)", s.near(0), 6);
        due("near(101)", s.near(101), -1);
        due("near(-1)", s.near(-1), -1);
        due("near(0) without TICKS", new SunPoint().near(0), 0);
        s.ticks(100);
        due("near(100) behind 100 more", s.near(100), 100);
    }

    private static void longestAway() {
        SunPoint s = logged();
        due("longestAway(100)", s.longestAway(100), 2);
        due("longestAway(31)", s.longestAway(31), 2);
        due("longestAway(30)", s.longestAway(30), 1);
        due("longestAway(10)", s.longestAway(10), 0);
        due("longestAway(0)", s.longestAway(0), 0);
        due("longestAway(101)", s.longestAway(101), -1);
        due("longestAway(-1)", s.longestAway(-1), -1);
        due("longestAway(50) without TICKS", new SunPoint().longestAway(50), 0);
        SunPoint climbing = of(ONE);
        climbing.ticks(3);
        // 39 79 117 of 384
        due("longestAway(10)", climbing.longestAway(10), 0);
        due("longestAway(11)", climbing.longestAway(11), 1);
        due("longestAway(30)", climbing.longestAway(30), 2);
        due("longestAway(31)", climbing.longestAway(31), 3);
    }

    private static void ripple() {
        SunPoint s = logged();
        // POINTS 60 4 60 8 12 0, the latest last
        int[] want = {0, 12, 12, 60, 60, 60, 60};
        for (int n = 1; n <= 7; n++) {
            due("ripple(" + n + ")", s.ripple(n), want[n - 1]);
        }
        due("ripple(100)", s.ripple(100), 60);
        due("ripple(101)", s.ripple(101), -1);
        due("ripple(0)", s.ripple(0), -1);
        due("ripple(5) without TICKS", new SunPoint().ripple(5), -2);
        due("ripple(101) without TICKS", new SunPoint().ripple(101), -1);
        SunPoint climbing = of(ONE);
        climbing.ticks(3);
        due("ripple(1)", climbing.ripple(1), 0);
        due("ripple(2)", climbing.ripple(2), 4);
        due("ripple(3)", climbing.ripple(3), 8);
    }

    private static void average() {
        SunPoint s = logged();
        int[] want = {0, 58, 65, 145, 123, 167, 167};
        for (int n = 1; n <= 7; n++) {
            due("average(" + n + ")", s.average(n), want[n - 1]);
        }
        due("average(100)", s.average(100), 167);
        due("average(101)", s.average(101), -1);
        due("average(0)", s.average(0), -1);
        due("average(1) without TICKS", new SunPoint().average(1), -2);
        SunPoint climbing = of(ONE);
        climbing.ticks(3);
        due("average(1)", climbing.average(1), 117);
        due("average(2)", climbing.average(2), 98);
        due("average(3)", climbing.average(3), 78);
    }

    private static void worst() {
        SunPoint s = logged();
        due("worst(0)", s.worst(0), 4);
        due("worst(1)", s.worst(1), 345);
        due("worst(2)", s.worst(2), -1);
        due("worst(-1)", s.worst(-1), -1);
        s.light(0, 100);
        s.settle(18, 4);
        s.ticks(2);
        s.settle(18, 60);
        s.ticks(3);
        due("worst(0), the latest of like ones", s.worst(0), 3);
        due("worst(0) without TICKS", new SunPoint().worst(0), -2);
        due("worst(2) without TICKS", new SunPoint().worst(2), -1);
        SunPoint good = of(ONE + "way 2 60;");
        good.ticks(4);
        due("worst(0), none is away", good.worst(0), 0);
        due("worst(1), none is away", good.worst(1), 0);
    }

    // ---------------------------------------------------------------- what comes

    private static SunPoint coming() {
        return of(TWO + "at 9 grid 0;at 2 light 1 7;at 9 tune 46000;at 2 light 0 8;at 5 grid 1;");
    }

    private static void comes() {
        SunPoint s = coming();
        int[][] want = {{2, 0, 1, 7}, {2, 0, 0, 8}, {5, 1, -2, 1}, {9, 1, -2, 0}, {9, 2, -2, 46000}, {-2, -2, -2, -2}};
        for (int k = 0; k < want.length; k++) {
            for (int what = 0; what < 4; what++) {
                due("comes(" + k + ", " + what + ")", s.comes(k, what), want[k][what]);
            }
        }
        due("comes(MAX, 0)", s.comes(Integer.MAX_VALUE, 0), -2);
        due("comes(-1, 0)", s.comes(-1, 0), -1);
        due("comes(0, 4)", s.comes(0, 4), -1);
        due("comes(9, 4)", s.comes(9, 4), -1);
        due("comes(0, -1)", s.comes(0, -1), -1);
        s.ticks(2);
        due("comes(0, 0)", s.comes(0, 0), 5);
        s.ticks(7);
        due("comes(0, 0)", s.comes(0, 0), -2);
    }

    private static void cancel() {
        SunPoint s = coming();
        due("cancel(-1)", s.cancel(-1), -1);
        due("cancel(5)", s.cancel(5), -2);
        due("cancel(1)", s.cancel(1), 4);
        due("comes(1, 0)", s.comes(1, 0), 5);
        s.ticks(2);
        due("module(0, 2)", s.module(0, 2), 100);
        due("module(1, 2)", s.module(1, 2), 7);
        due("cancel(2)", s.cancel(2), 2);
        due("cancel(2)", s.cancel(2), -2);
        due("comes(1, 1)", s.comes(1, 1), 1);
        s.ticks(7);
        state(s, 12, 0, 50000);
        due("cancel(0)", s.cancel(0), -2);
        SunPoint first = coming();
        due("cancel(0)", first.cancel(0), 4);
        due("comes(0, 3)", first.comes(0, 3), 8);
        due("cancel(3)", first.cancel(3), 3);
        due("comes(2, 1)", first.comes(2, 1), 1);
        due("comes(3, 1)", first.comes(3, 1), -2);
        due("cancel(MIN)", s.cancel(Integer.MIN_VALUE), -1);
        due("count(1)", s.count(1), 0);
    }

    // ---------------------------------------------------------------- what would be

    private static void ifTicks() {
        String text = ONE + "battery 1000 900 0;inverter 10 1 50 3 60;at 5 grid 0;";
        SunPoint s = of(text);
        SunPoint t = of(text);
        s.ticks(2);
        t.ticks(2);
        t.ticks(7);
        int[] want = {(int) (t.sum(0) - s.sum(0)), (int) (t.sum(2) - s.sum(2)), (int) (t.sum(3) - s.sum(3)),
            (int) (t.sum(4) - s.sum(4)), t.now(8), t.now(9), 1, t.now(1)};
        for (int what = 0; what < 8; what++) {
            due("ifTicks(7, " + what + ")", s.ifTicks(7, what), want[what]);
        }
        due("ifTicks(1, 0)", s.ifTicks(1, 0), 117);
        due("ifTicks(1, 7)", s.ifTicks(1, 7), 12);
        state(s, 0, 2, 8);
        due("count(1)", s.count(1), 1);
        due("count(2)", s.count(2), 2);
        due("ifTicks(0, 0)", s.ifTicks(0, 0), -1);
        due("ifTicks(301, 0)", s.ifTicks(301, 0), -1);
        due("ifTicks(5, 8)", s.ifTicks(5, 8), -1);
        due("ifTicks(5, -1)", s.ifTicks(5, -1), -1);
        due("ifTicks(1, 0) without MODULES", new SunPoint().ifTicks(1, 0), -1);
        // In the middle of a SCAN: from the best POINT so far, if none is better.
        SunPoint scanning = of(ONE + "follow 4 3 20 0 0;");
        scanning.scan();
        scanning.ticks(10);
        due("ifTicks(41, 7)", scanning.ifTicks(41, 7), 60);
        due("ifTicks(41, 0)", scanning.ifTicks(41, 0), 384);
        SunPoint half = of(ONE + "follow 4 3 20 0 0;");
        half.scan();
        half.ticks(4);
        due("ifTicks(47, 7)", half.ifTicks(47, 7), 60);
        // OFF, and WAITED once of three times.
        SunPoint off = of(ONE + "battery 1000 1000 0;inverter 10 1 50 3 60;way 2 60;at 1 grid 0;at 2 grid 1;");
        off.ticks(2);
        state(off, 11, 0);
        due("ifTicks(3, 2)", off.ifTicks(3, 2), 60);
        due("ifTicks(3, 3)", off.ifTicks(3, 3), 2 * 384 + 324);
        // Beyond 9999, too.
        SunPoint late = of(ONE + "way 2 60;");
        for (int i = 0; i < 19; i++) {
            late.ticks(500);
        }
        late.ticks(499);
        due("ifTicks(300, 0)", late.ifTicks(300, 0), 300 * 384);
    }

    private static void firstSeen() {
        SunPoint s = of(ONE + "inverter 400 2 100 3 150;at 3 grid 0;at 4 tune 51000;");
        // 50100, then 50100 + 112 + 100, 50312 + 86 + 100 (farther), and farther again
        due("firstSeen(300)", s.firstSeen(300), 6);
        due("firstSeen(6)", s.firstSeen(6), 6);
        due("firstSeen(5)", s.firstSeen(5), -2);
        due("firstSeen(0)", s.firstSeen(0), -1);
        due("firstSeen(301)", s.firstSeen(301), -1);
        due("firstSeen(5) without MODULES", new SunPoint().firstSeen(5), -1);
        s.ticks(5);
        due("firstSeen(1)", s.firstSeen(1), 1);
        s.ticks(1);
        due("firstSeen(9), OFF", s.firstSeen(9), -2);
        SunPoint half = of(ONE + "inverter 400 2 100 3 150;at 3 grid 0;at 4 tune 51000;");
        half.ticks(5);
        due("firstSeen(1) on the way", half.firstSeen(1), 1);
    }

    private static void firstFloat() {
        SunPoint s = of(ONE + "battery 1000 900 0;");
        due("firstFloat(9)", s.firstFloat(9), 3);
        due("firstFloat(3)", s.firstFloat(3), 3);
        due("firstFloat(2)", s.firstFloat(2), -2);
        due("firstFloat(0)", s.firstFloat(0), -1);
        due("firstFloat(301)", s.firstFloat(301), -1);
        due("firstFloat(5) without MODULES", new SunPoint().firstFloat(5), -1);
        s.ticks(3);
        due("firstFloat(1)", s.firstFloat(1), 1);
        SunPoint held = of(ONE + "battery 1000 1000 0;stages 1400 1100 80 9 0;way 2 60;");
        held.ticks(6);
        state(held, 9, 1, 5);
        due("firstFloat(9)", held.firstFloat(9), 4);
    }

    private static void leastPush() {
        SunPoint s = new SunPoint();
        due("leastPush(0)", s.leastPush(0), -1);
        due("leastPush(201)", s.leastPush(201), -1);
        due("leastPush(2)", s.leastPush(2), -2);
        // TRIP 3: farther than 500 in the first of three TICKS needs 501
        due("leastPush(3)", s.leastPush(3), 501);
        due("leastPush(5)", s.leastPush(5), 190);
        s.settle(8, 1);
        due("leastPush(1)", s.leastPush(1), 501);
        s.settle(7, 1);
        due("leastPush(1)", s.leastPush(1), 2);
        s.tune(51000);
        due("leastPush(1)", s.leastPush(1), 0);
        s.settle(7, 5000);
        s.tune(50000);
        due("leastPush(1)", s.leastPush(1), -2);
        s.settle(7, 999);
        due("leastPush(1)", s.leastPush(1), 1000);
        s.settle(7, 1000);
        due("leastPush(1)", s.leastPush(1), -2);
        // RATE and BAD as they are; whether it is ON, and GRID, count for nothing.
        SunPoint r = of(ONE + "inverter 100 2 101 3 150;at 1 grid 0;");
        r.ticks(1);
        state(r, 14, 50101);
        state(r, 16, 1);
        // 50101 - 12 and 12 more are 101
        due("leastPush(1)", r.leastPush(1), 12);
        r.grid(1);
        due("leastPush(1)", r.leastPush(1), 12);
        r.grid(0);
        r.ticks(1);
        state(r, 11, 0);
        state(r, 14, 50190);
        // OFF: 50190 less 23 is 50167, and 51147 behind it
        due("leastPush(2)", r.leastPush(2), 0);
    }

    private static void bestStep() {
        SunPoint s = of(ONE);
        // one TICK: 64 gives 377, 32 gives 284
        due("bestStep(1)", s.bestStep(1), 64);
        // two: 64, then 128 (0): 377; 32, 64: 284 and 377
        due("bestStep(2)", s.bestStep(2), 32);
        state(s, 3, 4);
        due("told(12)", s.told(12), 4);
        due("bestStep(0)", s.bestStep(0), -1);
        due("bestStep(301)", s.bestStep(301), -1);
        due("bestStep(5) without MODULES", new SunPoint().bestStep(5), -1);
        s.light(0, 0);
        due("bestStep(300), all alike", s.bestStep(300), 1);
        // STEP is as told where a SCAN ends: from 50 on 8 more are best (382).
        s.light(0, 100);
        s.scan();
        due("bestStep(22) with a SCAN", s.bestStep(22), 8);
        s.ticks(21);
        state(s, 1, 50, 1, 4);
    }

    private static void bestWay() {
        SunPoint s = of(ONE + "way 0 60;");
        due("bestWay(1)", s.bestWay(1), 2);
        due("told(17)", s.told(17), 0);
        s.settle(18, 1);
        // CLIMB and SLOPE go alike at first; SHARE stays at 1
        due("bestWay(3)", s.bestWay(3), 0);
        due("bestWay(60)", s.bestWay(60), 1);
        s.light(0, 0);
        due("bestWay(9), all alike", s.bestWay(9), 0);
        due("bestWay(0)", s.bestWay(0), -1);
        due("bestWay(301)", s.bestWay(301), -1);
        due("bestWay(5) without MODULES", new SunPoint().bestWay(5), -1);
    }

    private static void bestShare() {
        due("bestShare() without MODULES", new SunPoint().bestShare(), -2);
        SunPoint s = of(ONE);
        due("bestShare()", s.bestShare(), 60);
        s.light(0, 0);
        due("bestShare(), all alike", s.bestShare(), 1);
        SunPoint two = of(TWO);
        // the greatest LIT is 8: from 25 on it is POINT 2
        due("bestShare()", two.bestShare(), 25);
        two.light(0, 0);
        due("bestShare()", two.bestShare(), 63);
    }

    private static void slope() {
        SunPoint s = of(TWO);
        int[] want = {1, 2, 0, -1, 1, -1, -1, -1, 0};
        for (int x = 0; x < want.length; x++) {
            due("slope(" + x + ")", s.slope(x), want[x]);
        }
        due("slope(998)", s.slope(998), 0);
        due("slope(999)", s.slope(999), -9999999);
        due("slope(-1)", s.slope(-1), -9999999);
        due("slope(MAX)", s.slope(Integer.MAX_VALUE), -9999999);
        SunPoint end = of("module 999 999;");
        // 998: 999 less 997.0 and a bit is 1
        due("slope(998)", end.slope(998), -99);
    }

    private static void firstFull() {
        SunPoint s = of(ONE + "battery 1000 900 0;");
        due("firstFull(9)", s.firstFull(9), 2);
        due("firstFull(2)", s.firstFull(2), 2);
        due("firstFull(1)", s.firstFull(1), -2);
        due("firstFull(0)", s.firstFull(0), -1);
        due("firstFull(301)", s.firstFull(301), -1);
        due("firstFull(5) without MODULES", new SunPoint().firstFull(5), -1);
        due("now(8)", s.now(8), 900);
    }

    private static void seenBy() {
        SunPoint s = new SunPoint();
        // 50675, 49325: farther than 500 from the first TICK on
        due("seenBy(55000, 200)", s.seenBy(55000, 200), 3);
        due("seenBy(55000, 3)", s.seenBy(55000, 3), 3);
        due("seenBy(55000, 2)", s.seenBy(55000, 2), -2);
        due("seenBy(45000, 3)", s.seenBy(45000, 3), 3);
        due("seenBy(45000, 2)", s.seenBy(45000, 2), -2);
        // 50425, then 50425 + 321 + 50
        due("seenBy(53000, 200)", s.seenBy(53000, 200), 4);
        due("seenBy(50000, 200)", s.seenBy(50000, 200), -2);
        due("seenBy(44999, 5)", s.seenBy(44999, 5), -1);
        due("seenBy(55001, 5)", s.seenBy(55001, 5), -1);
        due("seenBy(50000, 0)", s.seenBy(50000, 0), -1);
        due("seenBy(50000, 201)", s.seenBy(50000, 201), -1);
        s.settle(8, 1);
        due("seenBy(55000, 1)", s.seenBy(55000, 1), 1);
        s.settle(8, 3);
        s.settle(9, 1000);
        due("seenBy(50000, 200)", s.seenBy(50000, 200), 3);
        state(s, 12, 1, 50000, 50000);
    }

    private static void blind() {
        SunPoint s = new SunPoint();
        due("blind(1)", s.blind(1), 101);
        due("blind(2)", s.blind(2), 101);
        // In three it is seen, if RATE is farther than 500 in the first: TUNE farther than 8 times 451 (3608)
        due("blind(3)", s.blind(3), 101 - 14 - 14);
        due("blind(0)", s.blind(0), -1);
        due("blind(201)", s.blind(201), -1);
        s.settle(9, 1000);
        due("blind(200)", s.blind(200), 0);
        state(s, 13, 50000);
    }

    private static void bestGap() {
        SunPoint s = of(ONE);
        // one TICK: all at 0
        due("bestGap(1)", s.bestGap(1), 10);
        due("bestGap(2)", s.bestGap(2), 60);
        s.scan();
        s.ticks(2);
        // anew
        due("bestGap(1)", s.bestGap(1), 10);
        due("bestGap(2)", s.bestGap(2), 60);
        state(s, 1, 50);
        due("told(14)", s.told(14), 50);
        due("bestGap(0)", s.bestGap(0), -1);
        due("bestGap(301)", s.bestGap(301), -1);
        due("bestGap(5) without MODULES", new SunPoint().bestGap(5), -1);
        // the greatest POWER is at 200
        due("bestGap(2)", of("module 347 999;").bestGap(2), 200);
    }

    private static void ifNear() {
        SunPoint s = of(ONE);
        // 39 79 117 192 257 313 374 360
        due("ifNear(8, 100)", s.ifNear(8, 100), 0);
        due("ifNear(8, 97)", s.ifNear(8, 97), 1);
        due("ifNear(8, 93)", s.ifNear(8, 93), 2);
        due("ifNear(8, 50)", s.ifNear(8, 50), 5);
        due("ifNear(8, 51)", s.ifNear(8, 51), 4);
        due("ifNear(8, 0)", s.ifNear(8, 0), 8);
        due("ifNear(8, 101)", s.ifNear(8, 101), -1);
        due("ifNear(8, -1)", s.ifNear(8, -1), -1);
        due("ifNear(0, 50)", s.ifNear(0, 50), -1);
        due("ifNear(301, 50)", s.ifNear(301, 50), -1);
        due("ifNear(5, 50) without MODULES", new SunPoint().ifNear(5, 50), -1);
        state(s, 0, 0);
    }

    private static void count() {
        SunPoint s = coming();
        s.feed(0, 0, 0, 0, 0);
        s.ticks(3);
        due("count(0)", s.count(0), 2);
        due("count(1)", s.count(1), 3);
        due("count(2)", s.count(2), 3);
        due("count(3)", s.count(3), 20);
        due("count(4)", s.count(4), -1);
        due("count(-1)", s.count(-1), -1);
        s.ticks(96);
        due("count(2)", s.count(2), 99);
        s.ticks(2);
        due("count(2)", s.count(2), 100);
    }
}
