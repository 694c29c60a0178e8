import java.util.NoSuchElementException;
import java.util.Random;

/** Many runs of calls by chance (always the same ones), each answered by SunPoint as by the Model. */
public final class ModelTest {
    private static final String[] NAMES = {
        "text", "fault", "ticks", "light", "grid", "tune", "scan", "told", "settle", "module", "volts", "power", "tops",
        "top", "best", "band", "climbed", "shadeOf", "lightFor", "darkest", "now", "sum", "past", "near", "longestAway",
        "ripple", "average", "worst", "comes", "cancel", "ifTicks", "firstSeen", "firstFloat", "leastPush", "bestStep",
        "bestWay", "bestShare", "slope", "firstFull", "seenBy", "blind", "bestGap", "ifNear", "count"};
    // What changes the state comes more often than its share of the names.
    private static final String[] OFTEN = {"ticks", "ticks", "ticks", "ticks", "light", "grid", "tune", "settle", "now",
        "settle", "past", "sum", "scan"};
    private static final int[] WILD = {Integer.MIN_VALUE, Integer.MIN_VALUE + 1, -1000000, -10, -2, -1, 0, 1, 2, 3, 4, 9,
        10, 11, 18, 19, 99, 100, 101, 200, 201, 300, 301, 500, 501, 998, 999, 1000, 9999, 45000, 55000, 9999999, 10000000,
        Integer.MAX_VALUE - 1, Integer.MAX_VALUE};

    private final Random chance;
    private final SunPoint sun = new SunPoint();
    private final Model model = new Model();
    private final StringBuilder told = new StringBuilder();

    private ModelTest(long seed) {
        chance = new Random(seed);
    }

    public static void main(String[] args) {
        int runs = args.length > 0 ? Integer.parseInt(args[0]) : 600;
        int wrong = 0;
        for (int seed = 1; seed <= runs && wrong < 5; seed++) {
            String fault = new ModelTest(seed).run();
            if (fault != null) {
                wrong++;
                System.out.println("seed " + seed + ": " + fault);
            }
        }
        System.out.println(runs + " runs beside the model, " + wrong + " wrong");
        System.exit(wrong == 0 ? 0 : 1);
    }

    private String run() {
        int calls = 0;
        for (int round = 0; round < 3; round++) {
            String wrong = load();
            for (int i = 0; i < 45 && wrong == null; i++, calls++) {
                boolean often = chance.nextInt(2) == 0;
                String name = often ? OFTEN[chance.nextInt(OFTEN.length)] : NAMES[chance.nextInt(NAMES.length)];
                int a = argument(name, 0);
                wrong = compare(name, a, argument(name, 1));
            }
            if (wrong != null) {
                return wrong + "\n" + told;
            }
        }
        return null;
    }

    private int below(int n) {
        return chance.nextInt(n);
    }

    private int from(int least, int most) {
        return least + below(most - least + 1);
    }

    private int argument(String name, int which) {
        int kind = below(12);
        if (kind == 0) {
            return WILD[below(WILD.length)];
        }
        switch (name) {
            case "text":
                return from(-1, 20);
            case "ticks":
                return below(6) == 0 ? from(1, 500) : from(1, 20);
            case "light":
                return which == 0 ? below(6) : from(0, 100);
            case "grid":
                return below(2);
            case "tune":
                return from(45000, 55000);
            case "settle":
                return which == 0 ? from(0, 18) : below(3) == 0 ? below(1200) : below(20);
            case "seenBy":
                return which == 0 ? from(45000, 55000) : from(1, 200);
            case "volts", "power", "climbed", "slope":
                return below(1000);
            case "lightFor":
                return which == 0 ? below(6) : below(model.best(1) * 3 / 2 + 2);
            case "module":
                return which == 0 ? below(6) : below(5);
            case "band", "near", "longestAway", "average", "ripple":
                return which == 0 ? from(0, 100) : below(3);
            case "past":
                return which == 0 ? below(110) : below(10);
            case "ifTicks":
                return which == 0 ? from(1, 300) : below(8);
            case "ifNear":
                return which == 0 ? from(1, 300) : below(101);
            case "firstSeen", "firstFloat", "firstFull", "bestStep", "bestWay", "bestGap":
                return from(1, 300);
            case "leastPush", "blind":
                return from(1, 200);
            default:
                return below(20);
        }
    }

    /** A TEXT is fed and read, by both. */
    private String load() {
        String text = below(8) == 0 ? "" : textByChance();
        if (below(4) == 0) {
            text = spoilt(text);
        }
        if (text.length() > 900) {
            text = text.substring(0, 900);
        }
        told.append("text \"").append(text).append("\"\n");
        compare("text", 0, 0);
        for (int i = 0; i < text.length(); i += 20) {
            int[] five = new int[5];
            for (int k = 0; k < 20; k++) {
                int sign = i + k < text.length() ? text.charAt(i + k) : 32;
                five[k / 4] = five[k / 4] << 8 | sign;
            }
            int size = sun.feed(five[0], five[1], five[2], five[3], five[4]);
            if (size != model.feed(five[0], five[1], five[2], five[3], five[4])) {
                return "feed answered " + size;
            }
        }
        String wrong = compare("text", text.length(), 0);
        wrong = wrong == null ? compare("fault", 0, 0) : wrong;
        wrong = wrong == null ? compare("fault", 1, 0) : wrong;
        return wrong == null ? compare("count", 3, 0) : wrong;
    }

    private String textByChance() {
        StringBuilder s = new StringBuilder();
        int modules = below(20) == 0 ? 7 : from(1, 6);
        boolean small = below(3) == 0;
        for (int i = 0; i < modules; i++) {
            s.append("module ").append(small ? from(1, 12) : from(1, 999)).append(' ').append(from(1, small ? 40 : 999));
            s.append(below(3) == 0 ? " ;\n" : ";");
        }
        for (int i = below(7); i > 0; i--) {
            s.append(section());
        }
        for (int i = below(30) == 0 ? 25 : below(9); i > 0; i--) {
            s.append("at ").append(below(5) == 0 ? from(1, 9999) : from(1, 60)).append(coming(modules));
        }
        return s.toString();
    }

    private String coming(int modules) {
        switch (below(4)) {
            case 0:
                return " grid " + below(2) + ";";
            case 1:
                return " tune " + from(45000, 55000) + ";";
            default:
                return " light " + below(modules) + " " + from(0, 100) + ";";
        }
    }

    private String section() {
        switch (below(5)) {
            case 0:
                int cap = from(1000, below(2) == 0 ? 5000 : 99999);
                return "battery " + cap + " " + from(0, cap) + " " + (below(2) == 0 ? 0 : from(0, 999)) + ";";
            case 1:
                int high = from(1100, 2000);
                return "stages " + high + " " + from(1100, high) + " " + from(0, 100) + " " + from(1, 20) + " "
                    + from(0, 999) + ";";
            case 2:
                return "inverter " + from(1, 2000) + " " + from(1, 6) + " " + from(0, 200) + " " + from(1, 12) + " "
                    + from(1, 9999) + ";";
            case 3:
                return "follow " + from(1, 64) + " " + from(1, 9) + " " + from(10, 200) + " "
                    + (below(2) == 0 ? 0 : from(1, 60)) + " " + (below(2) == 0 ? 0 : from(0, 100)) + ";";
            default:
                return "way " + below(3) + " " + from(1, 99) + ";";
        }
    }

    private String spoilt(String text) {
        String[] pieces = {";", " ", "7", "0", "module", "battery 1000 0 0;", "at", "light", "x", "-", "\n", "999999999999",
            "\u00e9", "modules", "way 1 50;", "grid", "\t", "module 5 5;", "00", "Q", "\u0000"};
        StringBuilder s = new StringBuilder(text);
        for (int i = from(1, 2); i > 0; i--) {
            int at = below(s.length() + 1);
            switch (below(3)) {
                case 0:
                    s.insert(at, pieces[below(pieces.length)]);
                    break;
                case 1:
                    s.delete(at, Math.min(s.length(), at + from(1, 6)));
                    break;
                default:
                    s.setLength(at);
                    break;
            }
        }
        return s.toString();
    }

    private String compare(String name, int a, int b) {
        String got = answer(false, name, a, b);
        String want = answer(true, name, a, b);
        told.append(name).append('(').append(a).append(", ").append(b).append(") ").append(want).append('\n');
        return got.equals(want) ? null : name + "(" + a + ", " + b + ") answered " + got + ", the model says " + want;
    }

    private String answer(boolean byModel, String name, int a, int b) {
        try {
            return String.valueOf(byModel ? Calls.ofModel(model, name, a, b) : Calls.ofSun(sun, name, a, b));
        } catch (IndexOutOfBoundsException e) {
            return e.getClass() == IndexOutOfBoundsException.class ? "throws Index" : "throws " + e;
        } catch (NoSuchElementException e) {
            return "throws NoSuch";
        } catch (RuntimeException e) {
            return "throws " + e;
        }
    }
}
