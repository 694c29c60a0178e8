import java.lang.reflect.Method;
import java.lang.reflect.Modifier;
import java.nio.charset.StandardCharsets;
import java.nio.file.Files;
import java.nio.file.Path;
import java.util.regex.Matcher;
import java.util.regex.Pattern;

/** What README.md shows holds: each call answers what stands behind it, and no call of the face is left out. */
public final class ReadmeTest {
    private static final Pattern TOLD = Pattern.compile("tell\\(sun, \"([^\"]*)\"\\); // (-?\\d+)\\b.*");
    private static final Pattern ASKED = Pattern.compile("sun\\.(\\w+)\\((-?\\d+)(?:, (-?\\d+))?\\); // (-?\\d+)\\b.*");

    private static int wrong = 0;
    private static int checks = 0;

    public static void main(String[] args) throws Exception {
        String page = read("README.md");
        // The page shows this file's own tell(), so that what is tried here is what is shown there.
        String own = read("src/test/java/ReadmeTest.java").replaceAll("(?m)^    ", "");
        String shown = block(page, "static int tell(");
        hold("tell() stands in README.md as in ReadmeTest", !shown.isEmpty() && own.contains(shown));
        answers(block(page, "SunPoint sun = new SunPoint();"));
        for (Method m : SunPoint.class.getDeclaredMethods()) {
            if (Modifier.isPublic(m.getModifiers())) {
                hold(m.getName() + " stands in the table", page.contains("`" + m.getName() + "`"));
            }
        }
        System.out.println(checks + " checks of README.md, " + wrong + " wrong");
        System.exit(wrong == 0 ? 0 : 1);
    }

    private static String read(String path) throws Exception {
        return new String(Files.readAllBytes(Path.of(path)), StandardCharsets.ISO_8859_1);
    }

    private static void hold(String what, boolean holds) {
        checks++;
        if (!holds) {
            wrong++;
            System.out.println("README.md: " + what);
        }
    }

    /** The block of Java that begins so. */
    private static String block(String page, String beginning) {
        int from = page.indexOf("```java\n" + beginning);
        int to = from < 0 ? -1 : page.indexOf("```", from + 3);
        return to < 0 ? "" : page.substring(from + 8, to);
    }

    private static void answers(String block) {
        SunPoint sun = new SunPoint();
        String[] lines = block.split("\n");
        hold("calls are shown", lines.length > 1);
        for (int i = 1; i < lines.length; i++) {
            Matcher told = TOLD.matcher(lines[i]);
            Matcher asked = ASKED.matcher(lines[i]);
            if (told.matches()) {
                due(lines[i], tell(sun, told.group(1)), told.group(2));
            } else if (asked.matches()) {
                int second = asked.group(3) == null ? 0 : Integer.parseInt(asked.group(3));
                due(lines[i], Calls.ofSun(sun, asked.group(1), Integer.parseInt(asked.group(2)), second), asked.group(4));
            } else {
                hold("a line that isn't understood: " + lines[i], false);
            }
        }
    }

    private static void due(String line, long got, String want) {
        hold(line + " answered " + got, got == Long.parseLong(want));
    }

    static int tell(SunPoint sun, String text) {
        for (int i = 0; i < text.length(); i += 20) {
            int[] five = new int[5];
            for (int k = 0; k < 20; k++) {
                five[k / 4] = five[k / 4] << 8 | (i + k < text.length() ? text.charAt(i + k) : ' ');
            }
            sun.feed(five[0], five[1], five[2], five[3], five[4]);
        }
        return sun.text(text.length());
    }
}
