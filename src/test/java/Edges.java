import java.io.IOException;
import java.nio.charset.StandardCharsets;
import java.nio.file.Files;
import java.nio.file.Path;
import java.util.NoSuchElementException;

/**
 * What the tests of the boundary cases share. Each test begins with the sentence it is for, as it stands in the document:
 * the sentence is looked up there, and in the end no boundary of the document may be left that no sentence has.
 */
final class Edges {
    /** POWER at x is x times (100 less x times x by 100, rounded up) by 10: 39 at 4, 79 at 8, 384 at 60, the greatest. */
    static final String ONE = "module 100 100;";
    /** POWER is 0 1 3 3 2 3 2 1 0: two TOPS. */
    static final String TWO = "module 4 10;module 8 10;";
    static final int MIN = Integer.MIN_VALUE;
    static final int MAX = Integer.MAX_VALUE;

    // By these a sentence is known to name a boundary case.
    private static final String[] BOUNDARIES = {"NONE", "-2", "-9999999", "..", "at most", "at least", " or more", "Exception:",
        "downwards", "the first", "the latest", "the least", "no more than", "towards 0", "of like ones"};

    private static String[] parts;
    private static boolean[][] quoted;
    private static String sentence = "";
    private static int sentences = 0;
    private static int checksOfIt = 1;
    private static int checks = 0;
    private static int wrong = 0;

    private Edges() {
    }

    // ---------------------------------------------------------------- the document

    /** Without the document (a lone checkout) the tests run all the same. */
    static void begin(Path document) throws IOException {
        parts = new String[47];
        quoted = new boolean[47][];
        if (!Files.exists(document)) {
            parts = null;
            return;
        }
        String text = new String(Files.readAllBytes(document), StandardCharsets.UTF_8).replaceAll("\\s+", " ");
        text = text.substring(text.indexOf("## Terms"), text.indexOf("## Not promised"));
        for (int p = 0; p <= 46; p++) {
            int from = p == 0 ? 0 : text.indexOf("## Promise " + p + ":");
            int to = p == 46 ? text.length() : text.indexOf("## Promise " + (p + 1) + ":");
            parts[p] = text.substring(from, to);
            quoted[p] = new boolean[to - from];
        }
    }

    /** A test begins: of a sentence of this promise; 0: of what stands ahead of all of them. */
    static void sentence(int promise, String words) {
        endOfSentence();
        sentence = (promise == 0 ? "terms" : "promise " + promise) + ", \"" + words + "\"";
        sentences++;
        checksOfIt = 0;
        if (parts == null) {
            return;
        }
        int at = parts[promise].indexOf(words);
        holds("this sentence stands in the document", at >= 0);
        for (; at >= 0; at = parts[promise].indexOf(words, at + 1)) {
            for (int i = at; i < at + words.length(); i++) {
                quoted[promise][i] = true;
            }
        }
        checksOfIt = 0;
    }

    private static void endOfSentence() {
        if (checksOfIt == 0) {
            wrong++;
            System.out.println(sentence + ": nothing is checked");
        }
    }

    /** How many things are wrong in all. */
    static int end() {
        endOfSentence();
        for (int p = 0; parts != null && p <= 46; p++) {
            for (String sign : BOUNDARIES) {
                for (int at = parts[p].indexOf(sign); at >= 0; at = parts[p].indexOf(sign, at + 1)) {
                    if (!quoted[p][at] || !quoted[p][at + sign.length() - 1]) {
                        wrong++;
                        System.out.println("no test is for \"" + parts[p].substring(Math.max(0, at - 30),
                            Math.min(parts[p].length(), at + 40)) + "\" (part " + p + ")");
                    }
                }
            }
        }
        System.out.println(sentences + " sentences, " + checks + " checks, " + wrong + " wrong");
        return wrong;
    }

    // ---------------------------------------------------------------- checks

    static void due(String call, long got, long want) {
        checks++;
        checksOfIt++;
        if (got != want) {
            wrong++;
            System.out.println(sentence + ": " + call + " answered " + got + ", due is " + want);
        }
    }

    static void holds(String what, boolean it) {
        due(what, it ? 1 : 0, 1);
    }

    static void same(String what, String got, String want) {
        holds(what + " is [" + got + "], due is [" + want + "]", got.equals(want));
    }

    /** now(first), and what is behind it. */
    static void now(SunPoint s, int first, int... want) {
        for (int i = 0; i < want.length; i++) {
            due("now(" + (first + i) + ") in TICK " + s.now(0), s.now(first + i), want[i]);
        }
    }

    /** Of the latest TICK in the LOG, from POINT on. */
    static void row(SunPoint s, int... want) {
        for (int i = 0; i < want.length; i++) {
            due("past(0, " + i + ") in TICK " + s.now(0), s.past(0, i), want[i]);
        }
    }

    /** The text is refused, by this FAULT at this place. */
    static void refused(String text, int fault, int place) {
        SunPoint s = of(ONE);
        due("text(\"" + text + "\")", s.text(feed(s, text)), -1);
        due("fault(0) of \"" + text + "\"", s.fault(0), fault);
        due("fault(1) of \"" + text + "\"", s.fault(1), place);
    }

    static void fine(String text, int lines) {
        SunPoint s = of(ONE);
        due("text(\"" + text + "\")", s.text(feed(s, text)), lines);
        due("fault(0) of \"" + text + "\"", s.fault(0), 0);
        due("fault(1) of \"" + text + "\"", s.fault(1), -1);
    }

    /** 0: module() answers; 1: it throws IndexOutOfBoundsException, 2: NoSuchElementException. */
    static int thrown(SunPoint s, int module, int what) {
        try {
            s.module(module, what);
            return 0;
        } catch (IndexOutOfBoundsException e) {
            return e.getClass() == IndexOutOfBoundsException.class ? 1 : 3;
        } catch (NoSuchElementException e) {
            return e.getClass() == NoSuchElementException.class ? 2 : 4;
        }
    }

    // ---------------------------------------------------------------- objects

    /** Feeds a text, blanks behind it, and answers how long it is. */
    static int feed(SunPoint s, String text) {
        for (int i = 0; i < text.length(); i += 20) {
            int[] five = new int[5];
            for (int k = 0; k < 20; k++) {
                five[k / 4] = five[k / 4] << 8 | (i + k < text.length() ? text.charAt(i + k) & 255 : 32);
            }
            s.feed(five[0], five[1], five[2], five[3], five[4]);
        }
        return text.length();
    }

    static SunPoint of(String text) {
        SunPoint s = new SunPoint();
        if (s.text(feed(s, text)) < 0) {
            holds("the text \"" + text + "\" is read", false);
        }
        return s;
    }

    static SunPoint after(String text, int ticks) {
        SunPoint s = of(text);
        for (int left = ticks; left > 0; left -= 500) {
            s.ticks(Math.min(500, left));
        }
        due("now(0) of \"" + text + "\"", s.now(0), ticks);
        return s;
    }

    static String times(int n, String text) {
        return text.repeat(n);
    }

    /** All that can be asked of the state. */
    static String picture(SunPoint s) {
        StringBuilder p = new StringBuilder();
        for (int i = 0; i < 18; i++) {
            p.append(s.now(i)).append(' ').append(s.told(i)).append(' ').append(s.sum(i)).append(' ').append(s.count(i));
            p.append(' ').append(s.fault(i)).append(' ').append(s.best(i)).append(';');
        }
        p.append(s.told(18)).append(' ').append(s.tops());
        for (int i = 0; i < s.count(0); i++) {
            for (int what = 0; what < 4; what++) {
                p.append(' ').append(s.module(i, what));
            }
        }
        for (int i = 0; i < s.count(1); i++) {
            for (int what = 0; what < 4; what++) {
                p.append(' ').append(s.comes(i, what));
            }
        }
        for (int i = 0; i < s.count(2); i++) {
            for (int what = 0; what < 10; what++) {
                p.append(' ').append(s.past(i, what));
            }
        }
        for (int x = 0; x < 1000; x++) {
            p.append(' ').append(s.power(x));
        }
        return p.toString();
    }
}
