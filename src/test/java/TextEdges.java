/** The boundary cases of the TAPE, of the TEXT and of its FAULTS: promises 1 to 4, and of the terms what tells the TEXT. */
final class TextEdges {
    private static final String BATTERY = "battery 1000 0 0;";
    private static final String STAGES = "stages 1400 1350 80 20 100;";
    private static final String INVERTER = "inverter 500 3 50 10 5000;";
    private static final String FOLLOW = "follow 4 3 50 0 0;";
    private static final String WAY = "way 0 75;";
    private static final String AT = "at 5 grid 0;";
    private static final String[] SETTINGS = {BATTERY, STAGES, INVERTER, FOLLOW, WAY};
    private static final String[] WORDS = {"module", "battery", "stages", "inverter", "follow", "way", "at"};
    private static final String[] ALL_WORDS = {"module", "battery", "stages", "inverter", "follow", "way", "at", "light",
        "grid", "tune"};

    private TextEdges() {
    }

    static void all() {
        lines();
        blanks();
        digits();
        modules();
        order();
        batteryNumbers();
        stagesNumbers();
        inverterNumbers();
        followNumbers();
        wayNumbers();
        ats();
        firstFault();
        noTokens();
        cantStand();
        tooMuch();
        toldAlready();
        newObject();
        tape();
        text();
        fault();
    }

    // ---------------------------------------------------------------- the language

    private static void lines() {
        Edges.sentence(0, "A TEXT: { LINE ';' }.");
        Edges.fine("", 0);
        Edges.fine("module 5 5;", 1);
        Edges.fine("module 5 5;module 5 5;", 2);
        Edges.refused(";", 1, 0);
        Edges.refused("module 5 5;;", 1, 11);
        Edges.refused("module 5 5", 1, 10);
        Edges.refused("module 5 5 module 5 5;", 1, 11);
        Edges.refused("module 5 5;module 5 5", 1, 21);
    }

    private static void blanks() {
        Edges.sentence(0, "Blanks 10, 32.");
        Edges.fine(" ", 0);
        Edges.fine("\n", 0);
        Edges.fine(" \n \n\n", 0);
        Edges.fine("\n module\n \n5\n5 ;\n", 1);
        Edges.fine("module 5 5;  at\n1 grid\n0;", 2);
        for (int sign : new int[] {0, 1, 8, 9, 11, 12, 13, 31, 33, 127, 128, 133, 160, 255}) {
            Edges.refused("module" + (char) sign + "5 5;", 1, 6);
            Edges.refused((char) sign + "module 5 5;", 1, 0);
            Edges.refused("module 5 5;" + (char) sign, 1, 11);
        }
        // A blank parts a word, and a number.
        Edges.refused("mod ule 5 5;", 1, 0);
        Edges.refused("module 1 1 5;", 1, 11);
        Edges.refused("module 1\n1 5;", 1, 11);
    }

    private static void digits() {
        Edges.sentence(0, "N: digits.");
        SunPoint s = Edges.of("module 007 0000000000000000000000999;");
        Edges.due("module(0, 0)", s.module(0, 0), 7);
        Edges.due("module(0, 1)", s.module(0, 1), 999);
        SunPoint all = Edges.of("module 102 345;module 678 9;");
        Edges.due("module(0, 0)", all.module(0, 0), 102);
        Edges.due("module(0, 1)", all.module(0, 1), 345);
        Edges.due("module(1, 0)", all.module(1, 0), 678);
        Edges.due("module(1, 1)", all.module(1, 1), 9);
        Edges.refused("module +5 5;", 1, 7);
        Edges.refused("module -5 5;", 1, 7);
        Edges.refused("module 5.0 5;", 1, 8);
        Edges.refused("module 5 /;", 1, 9);
        Edges.refused("module 5 :;", 1, 9);
        Edges.refused("module 5 " + (char) 178 + ";", 1, 9);
        Edges.refused("module 5 x;", 1, 9);
    }

    private static void modules() {
        Edges.sentence(0, "module, at most 6");
        for (int n = 1; n <= 6; n++) {
            Edges.due("count(0)", Edges.of(Edges.times(n, "module 5 5;")).count(0), n);
        }
        Edges.refused(Edges.times(7, "module 5 5;"), 2, 66);
        Edges.refused(Edges.times(6, "module 5 5;") + "  module", 2, 68);

        Edges.sentence(0, "numbered from 0 on");
        SunPoint s = Edges.of("module 1 9;module 2 9;module 3 9;module 4 9;module 5 9;module 6 9;");
        for (int i = 0; i < 6; i++) {
            Edges.due("module(" + i + ", 0)", s.module(i, 0), i + 1);
        }
        Edges.due("module(6, 0) throws", Edges.thrown(s, 6, 0), 1);
        Edges.due("module(-1, 0) throws", Edges.thrown(s, -1, 0), 1);

        Edges.sentence(0, "ahead of all others; one at least, if there are others");
        for (String line : new String[] {BATTERY, STAGES, INVERTER, FOLLOW, WAY, AT}) {
            Edges.fine(Edges.ONE + line, 2);
            Edges.refused(line, 1, 0);
            Edges.refused(line + Edges.ONE, 1, 0);
            Edges.refused(Edges.ONE + line + Edges.ONE, 1, 15 + line.length());
            Edges.refused(Edges.ONE + line + "module", 1, 15 + line.length());
        }
        Edges.due("no LINES at all", Edges.of("").count(0), 0);

        Edges.sentence(0, "AMPS 1 .. 999, VOLTS 1 .. 999.");
        bounds("module ", 1, 999, " 5;", -1);
        bounds("module 5 ", 1, 999, ";", -1);
        SunPoint most = Edges.of("module 1 999;module 999 1;");
        Edges.due("module(0, 0)", most.module(0, 0), 1);
        Edges.due("module(0, 1)", most.module(0, 1), 999);
        Edges.due("module(1, 0)", most.module(1, 0), 999);
        Edges.due("module(1, 1)", most.module(1, 1), 1);
    }

    private static void order() {
        Edges.sentence(0, "battery, stages, inverter, follow, way, in whatever order, ahead of all at LINES.");
        permute("", SETTINGS, 0);
        for (String line : SETTINGS) {
            Edges.fine(Edges.ONE + line + AT, 3);
            Edges.refused(Edges.ONE + AT + line, 1, 15 + AT.length());
            Edges.refused(Edges.ONE + AT + AT + line, 1, 15 + 2 * AT.length());
        }
        Edges.fine(Edges.ONE + AT + AT, 3);
    }

    private static void permute(String before, String[] lines, int used) {
        if (Integer.bitCount(used) == lines.length) {
            Edges.fine(Edges.ONE + before + AT, lines.length + 2);
        }
        for (int i = 0; i < lines.length; i++) {
            if ((used & 1 << i) == 0) {
                permute(before + lines[i], lines, used | 1 << i);
            }
        }
    }

    /** The least and the most are told so; one less and one more are FAULTS 2, at their place. */
    private static void bounds(String before, int least, int most, String behind, int what) {
        for (int v : new int[] {least, most}) {
            SunPoint s = Edges.of(before + v + behind);
            Edges.due("fault(0) of \"" + before + v + behind + "\"", s.fault(0), 0);
            Edges.due("told(" + what + ") of \"" + before + v + behind + "\"", s.told(what), what < 0 ? -1 : v);
        }
        if (least > 0) {
            Edges.refused(before + (least - 1) + behind, 2, before.length());
        }
        Edges.refused(before + (most + 1) + behind, 2, before.length());
        Edges.refused(before + ";", 1, before.length());
    }

    private static void first(int from, int... values) {
        for (SunPoint s : new SunPoint[] {new SunPoint(), Edges.of(""), Edges.of(Edges.ONE)}) {
            for (int i = 0; i < values.length; i++) {
                Edges.due("told(" + (from + i) + ")", s.told(from + i), values[i]);
            }
        }
    }

    private static void batteryNumbers() {
        Edges.sentence(0, "battery: CAP 1000 .. 99999, CHARGE 0 .. CAP, DRAIN 0 .. 999 (first told 10000, 0, 0).");
        first(0, 10000, 0);
        Edges.due("CHARGE", new SunPoint().now(8), 0);
        bounds(Edges.ONE + "battery ", 1000, 99999, " 0 0;", 0);
        bounds(Edges.ONE + "battery 5000 0 ", 0, 999, ";", 1);
        for (int cap : new int[] {1000, 1001, 10000, 99999}) {
            bounds(Edges.ONE + "battery " + cap + " ", 0, cap, " 0;", -1);
            Edges.due("CHARGE", Edges.of(Edges.ONE + "battery " + cap + " " + cap + " 0;").now(8), cap);
            Edges.due("CHARGE", Edges.of(Edges.ONE + "battery " + cap + " 0 0;").now(8), 0);
        }
    }

    private static void stagesNumbers() {
        Edges.sentence(0, "stages: HIGH 1100 .. 2000, LOW 1100 .. HIGH, BACK 0 .. 100, HOLD 1 .. 200, TAPER 0 .. 99999"
            + " (1400, 1350, 80, 20, 100).");
        first(2, 1400, 1350, 80, 20, 100);
        bounds(Edges.ONE + "stages ", 1100, 2000, " 1100 80 20 100;", 2);
        for (int high : new int[] {1100, 1101, 1399, 2000}) {
            bounds(Edges.ONE + "stages " + high + " ", 1100, high, " 80 20 100;", 3);
        }
        bounds(Edges.ONE + "stages 1400 1350 ", 0, 100, " 20 100;", 4);
        bounds(Edges.ONE + "stages 1400 1350 80 ", 1, 200, " 100;", 5);
        bounds(Edges.ONE + "stages 1400 1350 80 20 ", 0, 99999, ";", 6);
    }

    private static void inverterNumbers() {
        Edges.sentence(0, "inverter: WINDOW 1 .. 5000, TRIP 1 .. 20, PUSH 0 .. 1000, WAIT 1 .. 99, RAMP 1 .. 99999"
            + " (500, 3, 50, 10, 5000).");
        first(7, 500, 3, 50, 10, 5000);
        bounds(Edges.ONE + "inverter ", 1, 5000, " 3 50 10 5000;", 7);
        bounds(Edges.ONE + "inverter 500 ", 1, 20, " 50 10 5000;", 8);
        bounds(Edges.ONE + "inverter 500 3 ", 0, 1000, " 10 5000;", 9);
        bounds(Edges.ONE + "inverter 500 3 50 ", 1, 99, " 5000;", 10);
        bounds(Edges.ONE + "inverter 500 3 50 10 ", 1, 99999, ";", 11);
    }

    private static void followNumbers() {
        Edges.sentence(0, "follow: STEP 1 .. 64, LEARN 1 .. 9, GAP 10 .. 200, EVERY 0 .. 500, DROP 0 .. 100 (4, 3, 50, 0, 0).");
        first(12, 4, 3, 50, 0, 0);
        bounds(Edges.ONE + "follow ", 1, 64, " 3 50 0 0;", 12);
        bounds(Edges.ONE + "follow 4 ", 1, 9, " 50 0 0;", 13);
        bounds(Edges.ONE + "follow 4 3 ", 10, 200, " 0 0;", 14);
        bounds(Edges.ONE + "follow 4 3 50 ", 0, 500, " 0;", 15);
        bounds(Edges.ONE + "follow 4 3 50 0 ", 0, 100, ";", 16);
    }

    private static void wayNumbers() {
        Edges.sentence(0, "way: WAY 0 .. 2, SHARE 1 .. 99 (0, 75).");
        first(17, 0, 75);
        bounds(Edges.ONE + "way ", 0, 2, " 75;", 17);
        bounds(Edges.ONE + "way 1 ", 1, 99, ";", 18);
    }

    private static void ats() {
        Edges.sentence(0, "at, at most 24: a TICK 1 .. 9999, then light: a MODULE, 0 .. 100; grid: 0, 1; tune: 45000 .. 55000.");
        for (int n = 0; n <= 24; n++) {
            Edges.due("count(1)", Edges.of(Edges.ONE + Edges.times(n, AT)).count(1), n);
        }
        Edges.refused(Edges.ONE + Edges.times(25, AT), 2, 15 + 24 * AT.length());
        comes(1, "at ", 1, 9999, " grid 0;", 0);
        comes(1, "at ", 1, 9999, " tune 50000;", 0);
        comes(1, "at ", 1, 9999, " light 0 5;", 0);
        for (int n = 1; n <= 6; n++) {
            comes(n, "at 5 light ", 0, n - 1, " 7;", 2);
        }
        comes(1, "at 5 light 0 ", 0, 100, ";", 3);
        comes(1, "at 5 grid ", 0, 1, ";", 3);
        comes(1, "at 5 tune ", 45000, 55000, ";", 3);
    }

    private static void comes(int modules, String before, int least, int most, String behind, int what) {
        String ahead = Edges.times(modules, "module 5 5;") + before;
        bounds(ahead, least, most, behind, -1);
        Edges.due("comes(0, " + what + ")", Edges.of(ahead + least + behind).comes(0, what), least);
        Edges.due("comes(0, " + what + ")", Edges.of(ahead + most + behind).comes(0, what), most);
    }

    // ---------------------------------------------------------------- FAULTS

    private static void firstFault() {
        Edges.sentence(0, "FAULTS, the first along the text (of one place the least), with its place:");
        Edges.refused("module 0 #;", 2, 7);
        Edges.refused("module # 0;", 1, 7);
        Edges.refused("module 5 0 #;", 2, 9);
        Edges.refused("module 5 5;module 5 0;#", 2, 20);
        Edges.refused("way 5 5;", 1, 0);
        Edges.refused(Edges.ONE + WAY + "way 5 5;", 3, 24);
        Edges.refused(Edges.ONE + "way 5 5;" + WAY, 2, 19);
        Edges.refused(Edges.ONE + "at 0 light 9 101;", 2, 18);
        Edges.refused(Edges.ONE + "at 5 light 9 101;", 2, 26);
        Edges.refused(Edges.ONE + "at 0 #", 2, 18);
        Edges.refused(Edges.ONE + "at 10000", 2, 18);
        Edges.refused(Edges.times(6, "module 5 5;") + "module 0 0", 2, 66);
        // Of one place: too late (1) and a seventh one (2), too late (1) and told already (3).
        Edges.refused(Edges.times(6, "module 5 5;") + WAY + "module 5 5;", 1, 75);
        Edges.refused(Edges.times(6, "module 5 5;") + AT + "module 5 5;", 1, 78);
        for (String line : SETTINGS) {
            Edges.refused(Edges.ONE + line + AT + line, 1, 15 + line.length() + AT.length());
        }
    }

    private static void noTokens() {
        Edges.sentence(0, "1 a TOKEN that is none (a word that isn't of the language, too)");
        for (int sign = 0; sign < 256; sign++) {
            if (sign == 10 || sign == 32) {
                continue;
            }
            Edges.refused((char) sign + " 5 5;", 1, 0);
            if (sign != ';') {
                Edges.refused("module 5 5; " + (char) sign, 1, 12);
                Edges.refused(Edges.ONE + "at 5 " + (char) sign + " 0;", 1, 20);
            }
            if (sign < '0' || sign > '9') {
                Edges.refused("module " + (char) sign + " 5;", 1, 7);
                Edges.refused("module 5 " + (char) sign + ";", 1, 9);
            }
        }
        for (String word : ALL_WORDS) {
            String cut = word.substring(0, word.length() - 1);
            for (String none : new String[] {cut, cut + (char) (word.charAt(word.length() - 1) ^ 1), word + "s", word + "z",
                "a" + word, word + word, word.toUpperCase(), word.substring(1) + "x", word.charAt(0) + "" + word}) {
                Edges.refused(none + " 5 5;", 1, 0);
                Edges.refused("module 5 5;" + none + " 5 5;", 1, 11);
                Edges.refused(Edges.ONE + "at 5 " + none + " 0;", 1, 20);
            }
        }
    }

    private static void cantStand() {
        Edges.sentence(0, "or can't stand there");
        Edges.refused("5", 1, 0);
        Edges.refused("light 0 5;", 1, 0);
        Edges.refused("grid 0;", 1, 0);
        Edges.refused("tune 50000;", 1, 0);
        for (String word : new String[] {"light", "grid", "tune", "5", ";"}) {
            Edges.refused(Edges.ONE + word + " 0 5;", 1, 15);
        }
        for (String word : ALL_WORDS) {
            Edges.refused("module " + word + " 5;", 1, 7);
            Edges.refused("module 5 " + word + ";", 1, 9);
            Edges.refused("module 5 5 " + word + ";", 1, 11);
            Edges.refused(Edges.ONE + "at " + word + " grid 0;", 1, 18);
        }
        for (String word : WORDS) {
            Edges.refused(Edges.ONE + "at 5 " + word + " 0;", 1, 20);
        }
        Edges.refused(Edges.ONE + "at 5 0;", 1, 20);
        Edges.refused(Edges.ONE + "at 5;", 1, 19);
        Edges.refused(Edges.ONE + "at;", 1, 17);
        Edges.refused(Edges.ONE + "at grid 0;", 1, 18);
        // One number too many, and one too few.
        for (String line : new String[] {Edges.ONE, BATTERY, STAGES, INVERTER, FOLLOW, WAY, AT, "at 5 light 0 9;",
            "at 5 tune 50000;"}) {
            String ahead = line.equals(Edges.ONE) ? "" : Edges.ONE;
            String bare = line.substring(0, line.length() - 1);
            Edges.refused(ahead + bare + " 1;", 1, ahead.length() + line.length());
            int cut = bare.lastIndexOf(' ');
            Edges.refused(ahead + bare.substring(0, cut) + ";", 1, ahead.length() + cut);
        }

        Edges.sentence(0, "(the length, if more must come;");
        for (String line : new String[] {Edges.ONE, BATTERY, STAGES, INVERTER, FOLLOW, WAY, AT, "at 5 light 0 9;",
            "at 5 tune 50000;"}) {
            String ahead = line.equals(Edges.ONE) ? "" : Edges.ONE;
            String[] tokens = line.replace(";", " ;").split(" ");
            String cut = ahead;
            for (int i = 0; i + 1 < tokens.length; i++) {
                cut += (i == 0 ? "" : " ") + tokens[i];
                Edges.refused(cut, 1, cut.length());
                Edges.refused(cut + " ", 1, cut.length() + 1);
                Edges.refused(cut + "\n \n", 1, cut.length() + 3);
            }
        }
        // The length is n, not what the TAPE has.
        SunPoint s = new SunPoint();
        Edges.feed(s, "module 5 5;module 5 5;");
        Edges.due("text(10)", s.text(10), -1);
        Edges.due("fault(1)", s.fault(1), 10);
        Edges.feed(s, "module 5 5;");
        Edges.due("text(3)", s.text(3), -1);
        Edges.due("fault(1)", s.fault(1), 0);
        Edges.feed(s, "module 5 5;");
        Edges.due("text(9)", s.text(9), -1);
        Edges.due("fault(1)", s.fault(1), 9);
        // Nor does a number, or a word, go on behind n.
        Edges.feed(s, "module 5 1000;");
        Edges.due("text(12)", s.text(12), -1);
        Edges.due("fault(0)", s.fault(0), 1);
        Edges.due("fault(1)", s.fault(1), 12);
        Edges.feed(s, "modules");
        Edges.due("text(6)", s.text(6), -1);
        Edges.due("fault(1)", s.fault(1), 6);

        Edges.sentence(0, "the word of a LINE that stands too early or too late).");
        for (String line : SETTINGS) {
            Edges.refused("  " + line, 1, 2);
            Edges.refused("  " + line.substring(0, line.indexOf(' ')), 1, 2);
            Edges.refused(Edges.ONE + AT + "  " + line.substring(0, line.indexOf(' ')), 1, 17 + AT.length());
            Edges.refused(Edges.ONE + line + " module 0 0;", 1, 16 + line.length());
        }
        Edges.refused(" at 5 light 0 5;", 1, 1);
        Edges.refused(Edges.ONE + AT + " module", 1, 16 + AT.length());
    }

    private static void tooMuch() {
        Edges.sentence(0, "2 too much (at it): a number beyond what is said, a seventh module, a 25th at (at the word).");
        for (String number : new String[] {"1000", "9999999", "2147483647", "2147483648", "2147483653", "4294967296", "4294967301",
            "18446744073709551621", "00000000000000000000000001000", Edges.times(300, "9")}) {
            Edges.refused("module " + number + " 5;", 2, 7);
            Edges.refused("module 5 " + number + ";", 2, 9);
        }
        Edges.refused("module 0 5;", 2, 7);
        Edges.refused("module 000 5;", 2, 7);
        Edges.refused("module   1000 5;", 2, 9);
        Edges.refused(Edges.times(6, "module 5 5;") + "\nmodule 5 5;", 2, 67);
        Edges.refused(Edges.times(6, "module 5 5;") + "module", 2, 66);
        Edges.fine(Edges.ONE + Edges.times(24, AT), 25);
        Edges.refused(Edges.ONE + Edges.times(24, AT) + "\nat 5 grid 0;", 2, 16 + 24 * AT.length());
        Edges.refused(Edges.ONE + Edges.times(24, AT) + "at", 2, 15 + 24 * AT.length());
    }

    private static void toldAlready() {
        Edges.sentence(0, "3 told already: battery, stages, inverter, follow, way (at the word).");
        for (String line : SETTINGS) {
            String word = line.substring(0, line.indexOf(' '));
            Edges.refused(Edges.ONE + line + line, 3, 15 + line.length());
            Edges.refused(Edges.ONE + line + " " + word, 3, 16 + line.length());
            for (String other : SETTINGS) {
                if (other != line) {
                    Edges.refused(Edges.ONE + line + other + line, 3, 15 + line.length() + other.length());
                }
            }
        }
        // What was told by the TEXT before it doesn't count, and a module or an at may come again.
        SunPoint s = Edges.of(Edges.ONE + WAY);
        Edges.due("told anew", s.text(Edges.feed(s, Edges.ONE + WAY)), 2);
        Edges.refused(Edges.ONE + WAY + WAY, 3, 24);
        Edges.due("told anew behind a FAULT", s.text(Edges.feed(s, Edges.ONE + WAY)), 2);
        Edges.fine(Edges.ONE + Edges.ONE + AT + AT, 4);
    }

    // ---------------------------------------------------------------- promises 1 to 4

    private static void newObject() {
        Edges.sentence(1, "No MODULES; an empty TAPE.");
        SunPoint s = new SunPoint();
        Edges.due("count(0)", s.count(0), 0);
        Edges.due("count(3)", s.count(3), 0);
        Edges.due("count(1)", s.count(1), 0);
        Edges.due("count(2)", s.count(2), 0);
        Edges.due("module(0, 0) throws", Edges.thrown(s, 0, 0), 1);
        Edges.due("text(1)", s.text(1), -2);
        Edges.due("text(0)", s.text(0), 0);
    }

    private static void tape() {
        Edges.sentence(2, "Twenty bytes come behind the TAPE, four of each number, the highest first: how many it has");
        SunPoint s = new SunPoint();
        // "modu" "le 1" "2 34" ";mod" "ule " and "5 6;" behind it
        Edges.due("feed", s.feed(0x6d6f6475, 0x6c652031, 0x32203334, 0x3b6d6f64, 0x756c6520), 20);
        Edges.due("feed", s.feed(0x3520363b, 0x20202020, 0x0a0a0a0a, 0x200a200a, 0x20202020), 40);
        Edges.due("text(40)", s.text(40), 2);
        Edges.due("module(0, 0)", s.module(0, 0), 12);
        Edges.due("module(0, 1)", s.module(0, 1), 34);
        Edges.due("module(1, 1)", s.module(1, 1), 6);
        // Numbers below 0: bytes from 128 on, each a TOKEN that is none, at its place.
        for (int i = 0; i < 20; i++) {
            int[] five = {0x20202020, 0x20202020, 0x20202020, 0x20202020, 0x20202020};
            five[i / 4] ^= 0xdf << 24 - i % 4 * 8;
            Edges.due("feed", s.feed(five[0], five[1], five[2], five[3], five[4]), 20);
            Edges.due("text(20)", s.text(20), -1);
            Edges.due("fault(1)", s.fault(1), i);
        }
        Edges.due("feed(MIN ..)", s.feed(Edges.MIN, Edges.MAX, -1, 0, 1), 20);
        Edges.due("count(3)", s.count(3), 20);

        Edges.sentence(2, "NONE, and none come, if it would have more than 900.");
        SunPoint full = new SunPoint();
        for (int i = 1; i <= 45; i++) {
            Edges.due("feed " + i, full.feed(0x20202020, 0x20202020, 0x20202020, 0x20202020, 0x20202020), 20 * i);
        }
        for (int i = 0; i < 3; i++) {
            Edges.due("feed beyond 900", full.feed(-1, -1, -1, -1, -1), -1);
            Edges.due("count(3)", full.count(3), 900);
        }
        Edges.due("text(901)", full.text(901), -2);
        Edges.due("count(3)", full.count(3), 900);
        Edges.due("text(900)", full.text(900), 0);
        Edges.due("feed", full.feed(0, 0, 0, 0, 0), 20);
        // The last byte of 900 is read, too.
        SunPoint last = new SunPoint();
        for (int i = 1; i <= 44; i++) {
            last.feed(0x20202020, 0x20202020, 0x20202020, 0x20202020, 0x20202020);
        }
        Edges.due("feed 45", last.feed(0x20202020, 0x20202020, 0x206d6f64, 0x756c6520, 0x3520373b), 900);
        Edges.due("text(900)", last.text(900), 1);
        Edges.due("module(0, 1)", last.module(0, 1), 7);
        for (int i = 1; i <= 44; i++) {
            last.feed(0x20202020, 0x20202020, 0x20202020, 0x20202020, 0x20202020);
        }
        last.feed(0x20202020, 0x20202020, 0x20202020, 0x20202020, 0x20202061);
        Edges.due("text(900)", last.text(900), -1);
        Edges.due("fault(1)", last.fault(1), 899);
    }

    private static void text() {
        Edges.sentence(3, "The TAPE's first n bytes (it is empty then) are the TEXT (all anew): how many LINES;");
        SunPoint s = Edges.of(Edges.TWO + "battery 5000 4000 7;at 9 grid 0;");
        s.ticks(5);
        s.settle(8, 7);
        s.scan();
        Edges.feed(s, "module 5 6;module 8 9; x");
        Edges.due("text(11)", s.text(11), 1);
        Edges.due("count(3)", s.count(3), 0);
        Edges.same("all", Edges.picture(s), Edges.picture(Edges.of("module 5 6;")));
        // What was tried of what would be leaves nothing behind, either.
        for (int ticks = 1; ticks <= 100; ticks += 3) {
            SunPoint tried = Edges.after(Edges.TWO + "battery 1000 900 7;stages 1390 1200 90 2 9;inverter 10 3 50 2 70;"
                + "follow 9 3 30 40 9;way 0 33;at 9 grid 0;at 9 tune 46000;at 30 grid 1;at 60 grid 0;at 70 light 1 5;at 9999 light 0 0;", ticks);
            tried.settle(1, 999);
            tried.ifTicks(ticks, 0);
            tried.bestGap(ticks % 50 + 1);
            Edges.due("text", tried.text(Edges.feed(tried, Edges.TWO + "at 2 light 0 50;")), 3);
            SunPoint fresh = Edges.of(Edges.TWO + "at 2 light 0 50;");
            Edges.same("all", Edges.picture(tried), Edges.picture(fresh));
            Edges.due("ticks(9)", tried.ticks(9), fresh.ticks(9));
            Edges.same("all, 9 TICKS on", Edges.picture(tried), Edges.picture(fresh));
        }
        SunPoint floats = Edges.after(Edges.ONE + "way 2 60;battery 1000 1000 0;", 1);
        Edges.due("FLOAT then", floats.ifTicks(30, 5), 2);
        Edges.due("text", floats.text(Edges.feed(floats, Edges.TWO)), 2);
        Edges.same("all", Edges.picture(floats), Edges.picture(Edges.of(Edges.TWO)));
        // n is 0: an empty TEXT, of whatever TAPE.
        Edges.feed(s, "module 5 6;");
        Edges.due("text(0)", s.text(0), 0);
        Edges.due("count(3)", s.count(3), 0);
        Edges.same("all", Edges.picture(s), Edges.picture(new SunPoint()));
        Edges.due("text(0)", s.text(0), 0);
        String most = Edges.times(6, "module 5 5;") + BATTERY + STAGES + INVERTER + FOLLOW + WAY + Edges.times(24, AT);
        Edges.due("most LINES", s.text(Edges.feed(s, most)), 35);

        Edges.sentence(3, "NONE with a FAULT, all else stays;");
        SunPoint f = Edges.after(Edges.TWO + "battery 5000 4000 7;stages 1390 1200 70 9 8;inverter 90 2 80 7 66;"
            + "follow 3 2 40 30 20;way 1 44;at 9 grid 0;at 99 light 1 5;", 20);
        f.scan();
        f.ticks(2);
        String was = Edges.picture(f);
        for (String wrong : new String[] {"#", "module 1 1;module", Edges.times(6, "module 9 9;") + WAY + AT + "way 0 9;",
            Edges.ONE + "battery 1000 1000 999;stages 2000 2000 0 1 0;inverter 1 1 0 1 1;follow 64 9 200 500 100;way 2 99;at 0"}) {
            Edges.due("text of \"" + wrong + "\"", f.text(Edges.feed(f, wrong)), -1);
            Edges.due("count(3)", f.count(3), 0);
            Edges.same("all but the FAULT", withoutFault(Edges.picture(f)), withoutFault(was));
        }
        SunPoint g = Edges.after(Edges.TWO, 3);
        g.text(Edges.feed(g, "module 9 9"));
        Edges.due("ticks(3) goes on", g.ticks(3), Edges.after(Edges.TWO, 3).ticks(3));

        Edges.sentence(3, "-2, and the TAPE stays: there are not so many, n is below 0.");
        SunPoint t = new SunPoint();
        Edges.due("text(1), an empty TAPE", t.text(1), -2);
        Edges.due("text(-1), an empty TAPE", t.text(-1), -2);
        Edges.feed(t, Edges.ONE);
        for (int n : new int[] {21, 22, 900, 901, Edges.MAX, -1, -2, -20, Edges.MIN}) {
            Edges.due("text(" + n + ")", t.text(n), -2);
            Edges.due("count(3)", t.count(3), 20);
            Edges.due("count(0)", t.count(0), 0);
            Edges.due("fault(0)", t.fault(0), 0);
        }
        Edges.due("text(20)", t.text(20), 1);
    }

    /** Of a picture all but what fault(0) and fault(1) answered. */
    private static String withoutFault(String picture) {
        StringBuilder kept = new StringBuilder();
        String[] rows = picture.split(";", -1);
        for (int i = 0; i < rows.length; i++) {
            String[] cells = rows[i].split(" ");
            if (i < 18) {
                cells[4] = "";
            }
            kept.append(String.join(" ", cells)).append(';');
        }
        return kept.toString();
    }

    private static void fault() {
        Edges.sentence(4, "Of the latest text() that was not -2, what 0: its FAULT (0), 1: its place (NONE without).");
        SunPoint s = new SunPoint();
        Edges.due("fault(0) of none", s.fault(0), 0);
        Edges.due("fault(1) of none", s.fault(1), -1);
        s.text(Edges.feed(s, Edges.ONE + WAY + WAY));
        Edges.due("fault(0)", s.fault(0), 3);
        Edges.due("fault(1)", s.fault(1), 24);
        Edges.due("text(1)", s.text(1), -2);
        Edges.due("text(-1)", s.text(-1), -2);
        Edges.due("fault(0) behind a -2", s.fault(0), 3);
        Edges.due("fault(1) behind a -2", s.fault(1), 24);
        s.text(Edges.feed(s, "#"));
        Edges.due("fault(0)", s.fault(0), 1);
        Edges.due("fault(1) at the first byte", s.fault(1), 0);
        s.text(0);
        Edges.due("fault(0) of an empty TEXT", s.fault(0), 0);
        Edges.due("fault(1) of an empty TEXT", s.fault(1), -1);

        Edges.sentence(4, "NONE for another what.");
        s.text(Edges.feed(s, Edges.ONE + WAY + WAY));
        for (int what : new int[] {-1, 2, 3, Edges.MIN, Edges.MAX}) {
            Edges.due("fault(" + what + ")", s.fault(what), -1);
        }
    }
}
