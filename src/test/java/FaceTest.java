import java.lang.reflect.Constructor;
import java.lang.reflect.Field;
import java.lang.reflect.Method;
import java.lang.reflect.Modifier;
import java.nio.charset.StandardCharsets;
import java.nio.file.Files;
import java.nio.file.Path;
import java.util.ArrayList;
import java.util.Arrays;
import java.util.Collections;
import java.util.List;
import java.util.Random;
import java.util.regex.Matcher;
import java.util.regex.Pattern;

/** The public face as the document gives it, and what of LANGUAGE.md can be seen by a machine. */
public final class FaceTest {
    private static final String FACE = "feed(5) text(1) fault(1) ticks(1) light(2) grid(1) tune(1) scan(0) told(1) settle(2)"
        + " module(2) volts(1) power(1) tops(0) top(2) best(1) band(2) climbed(1) shadeOf(1) lightFor(2) darkest(0) now(1)"
        + " sum(1) past(2) near(1) longestAway(1) ripple(1) average(1) worst(1) comes(2) cancel(1) ifTicks(2) firstSeen(1)"
        + " firstFloat(1) leastPush(1) bestStep(1) bestWay(1) bestShare(0) slope(1) firstFull(1) seenBy(2) blind(1)"
        + " bestGap(1) ifNear(2) count(1)";

    private static int wrong = 0;

    public static void main(String[] args) throws Exception {
        face();
        members();
        source(args.length > 0 ? args[0] : "src/main/java/SunPoint.java");
        roomAndCalls();
        System.out.println(wrong == 0 ? "the face is as due" : wrong + " things of the face are not as due");
        System.exit(wrong == 0 ? 0 : 1);
    }

    private static void hold(String what, boolean holds) {
        if (!holds) {
            wrong++;
            System.out.println("face: " + what);
        }
    }

    private static void face() throws Exception {
        List<String> due = new ArrayList<>(Arrays.asList(FACE.split(" ")));
        List<String> got = new ArrayList<>();
        for (Method m : SunPoint.class.getDeclaredMethods()) {
            if (Modifier.isPublic(m.getModifiers())) {
                got.add(m.getName() + "(" + m.getParameterCount() + ")");
                hold(m + " answers int (sum: long)", m.getReturnType() == (m.getName().equals("sum") ? long.class : int.class));
                hold(m + " takes ints", Arrays.stream(m.getParameterTypes()).allMatch(t -> t == int.class));
                hold(m + " is of the object", !Modifier.isStatic(m.getModifiers()));
                hold(m + " tells what it throws", m.getExceptionTypes().length == (m.getName().equals("module") ? 2 : 0));
            }
        }
        Collections.sort(due);
        Collections.sort(got);
        hold("methods " + got, due.equals(got));
        Constructor<?>[] makers = SunPoint.class.getDeclaredConstructors();
        hold("one public constructor without arguments",
            makers.length == 1 && makers[0].getParameterCount() == 0 && Modifier.isPublic(makers[0].getModifiers()));
        Field none = SunPoint.class.getField("NONE");
        hold("NONE", none.getType() == int.class && Modifier.isFinal(none.getModifiers()) && SunPoint.NONE == -1);
        hold("the class is final", Modifier.isFinal(SunPoint.class.getModifiers()));
    }

    private static void members() {
        for (Field f : SunPoint.class.getDeclaredFields()) {
            hold(f + " is private", Modifier.isPrivate(f.getModifiers()) || f.getName().equals("NONE"));
        }
        List<String> names = new ArrayList<>();
        for (String f : FACE.split(" ")) {
            names.add(f.substring(0, f.indexOf('(')));
        }
        for (Method m : SunPoint.class.getDeclaredMethods()) {
            boolean isPrivate = Modifier.isPrivate(m.getModifiers());
            hold(m + " is public or private", isPrivate || Modifier.isPublic(m.getModifiers()) || m.isSynthetic());
            hold(m + " bears a name of the face", !isPrivate || !names.contains(m.getName()));
        }
        Class<?>[] inside = SunPoint.class.getDeclaredClasses();
        hold("some twelve classes", inside.length <= 12);
        for (Class<?> c : inside) {
            hold(c + " is static and not public", Modifier.isStatic(c.getModifiers()) && !Modifier.isPublic(c.getModifiers()));
            int fields = 0;
            for (Field f : c.getDeclaredFields()) {
                boolean isStatic = Modifier.isStatic(f.getModifiers());
                hold(f + " is final, being static", !isStatic || Modifier.isFinal(f.getModifiers()));
                fields += isStatic ? 0 : 1;
            }
            hold(c + " has some twenty fields", fields <= 20);
            for (Method m : c.getDeclaredMethods()) {
                hold(m + " takes seven at most", m.getParameterCount() <= 7);
                hold(m + " bears a name of the face", !names.contains(m.getName()));
            }
        }
    }

    private static void source(String path) throws Exception {
        String text = new String(Files.readAllBytes(Path.of(path)), StandardCharsets.ISO_8859_1);
        hold("plain signs", text.chars().allMatch(c -> c == 10 || c >= 32 && c < 127));
        String code = text.replaceAll("(?s)/\\*.*?\\*/", " ").replaceAll("//[^\n]*", " ");
        Matcher imports = Pattern.compile("import\\s+([^;]+);").matcher(code);
        while (imports.find()) {
            hold("import " + imports.group(1), List.of("java.util.Arrays", "java.util.NoSuchElementException")
                .contains(imports.group(1)));
        }
        for (String word : new String[] {"package ", "->", "::", "catch", "finally", "synchronized", "assert", "System.out",
            "System.err", "Exact(", "ordinal", "hashCode", "toString", "equals(", "instanceof", "Random", "Thread", "Math.abs(Integer",
            "double", "float", "volatile", "native", "while (true)", "for (;;)", "Object"}) {
            hold("'" + word + "' stands in the source", !code.contains(word));
        }
        int length = 0;
        for (String line : code.split("\n")) {
            length = line.matches("    (    )?\\S.*\\{") ? 0 : length + 1;
            if (line.matches("    (    )?\\}")) {
                hold("a method of " + length + " lines", length <= 62);
                length = 0;
            }
        }
    }

    /** No call makes an object, so that any number of calls has room enough; and none throws, by any arguments. */
    private static void roomAndCalls() {
        Random chance = new Random(7);
        String[] names = FACE.split(" ");
        java.lang.management.ThreadMXBean plain = java.lang.management.ManagementFactory.getThreadMXBean();
        com.sun.management.ThreadMXBean threads = (com.sun.management.ThreadMXBean) plain;
        SunPoint s = new SunPoint();
        // "module 999 99; at 9 light 0 5;" and one more MODULE
        int[] text = {0x6d6f6475, 0x6c652039, 0x39392039, 0x393b6d6f, 0x64756c65, 0x20313131, 0x20323232, 0x3b617420,
            0x39206c69, 0x67687420, 0x3020353b};
        s.feed(text[0], text[1], text[2], text[3], text[4]);
        s.feed(text[5], text[6], text[7], text[8], text[9]);
        s.feed(text[10], 0x20202020, 0x20202020, 0x20202020, 0x20202020);
        hold("the TEXT of this test", s.text(60) == 3);
        long id = Thread.currentThread().getId();
        long[] made = new long[names.length];
        for (int round = 0; round < 2; round++) {
            for (int i = 1; i < names.length; i++) {
                String name = names[i].substring(0, names[i].indexOf('('));
                if (name.equals("module")) {
                    continue;
                }
                long before = threads.getThreadAllocatedBytes(id);
                Calls.ofSun(s, name, 1, 1);
                made[i] = threads.getThreadAllocatedBytes(id) - before;
                if (name.equals("text")) {
                    s.feed(text[0], text[1], text[2], text[3], text[4]);
                    s.feed(text[5], text[6], text[7], text[8], text[9]);
                    s.feed(text[10], 0x20202020, 0x20202020, 0x20202020, 0x20202020);
                    s.text(60);
                }
            }
        }
        for (int i = 1; i < names.length; i++) {
            // In the second round all classes are there; a call that made a row of 1000 would show.
            hold(names[i] + " made " + made[i] + " bytes", made[i] < 1000);
        }
        for (int i = 0; i < 20000; i++) {
            String name = names[1 + chance.nextInt(names.length - 1)];
            name = name.substring(0, name.indexOf('('));
            if (!name.equals("module") && !name.equals("ticks")) {
                Calls.ofSun(s, name, chance.nextInt(), chance.nextInt());
            }
        }
    }
}
