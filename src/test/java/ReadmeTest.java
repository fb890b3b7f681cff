import java.lang.reflect.Method;
import java.lang.reflect.Modifier;
import java.net.URL;
import java.net.URLClassLoader;
import java.nio.file.Files;
import java.nio.file.Path;
import java.util.ArrayList;
import java.util.List;
import java.util.Map;
import java.util.Random;
import java.util.Set;
import java.util.TreeMap;
import java.util.TreeSet;
import java.util.regex.Matcher;
import java.util.regex.Pattern;

/** README.md: its examples answer as it shows, and its table tells all answers below 0, and none that isn't. */
public final class ReadmeTest {
    private static final Path FOLDER = Path.of("build", "readme");
    private static final Pattern BLOCK = Pattern.compile("(?s)```java\n(.*?)```");
    private static final Pattern SHOWN = Pattern.compile("(\\S.*\\));\\s*// ([-\\w]+)(: .*)?");
    private static final Pattern ROW = Pattern.compile("(?m)^\\| `(\\w+)\\((.*?)\\)` \\| (.*?) ?\\| (.*) \\|$");
    private static final Pattern NAMED = Pattern.compile("NO \\+ 1|\\b(?:NONE|BAD|STATE|FULL|NO)\\b|-\\d+");
    private static final Map<String, Long> ANSWERS = Map.of("NONE", -1L, "BAD", -2L, "STATE", -3L, "FULL", -4L,
        "NO", -4611686018427387904L, "NO + 1", -4611686018427387903L);
    private static final int[] NUMBERS = {0, 1, 2, 3, 4, 5, 6, 7, 0, 1, 2, 3, 5, -1, 8, 9, 14, 18, 40, 41, 50, 51, 100};
    private static final Check check = new Check("ReadmeTest");

    public static void main(String[] args) throws Exception {
        String text = Files.readString(Path.of("README.md"));
        examples(text);
        table(text);
        check.end();
    }

    private static long number(String shown) {
        return ANSWERS.containsKey(shown) ? ANSWERS.get(shown) : Long.parseLong(shown);
    }

    /** All examples are one program; what each call answers is put in its own place of a row. */
    private static void examples(String text) throws Exception {
        StringBuilder program = new StringBuilder("public final class ReadmeRun {\n"
            + "public static long[] answers() {\nlong[] answers = new long[1000];\n");
        List<String> calls = new ArrayList<>();
        List<Long> due = new ArrayList<>();
        for (Matcher block = BLOCK.matcher(text); block.find();) {
            for (String line : block.group(1).split("\n")) {
                Matcher shown = SHOWN.matcher(line);
                if (shown.matches()) {
                    program.append("answers[").append(calls.size()).append("] = ").append(shown.group(1)).append(";\n");
                    calls.add(shown.group(1));
                    due.add(number(shown.group(2)));
                } else {
                    check.holds("an example that shows no answer: " + line, !line.contains("//"));
                    program.append(line).append('\n');
                }
            }
        }
        long[] answers = run(program.append("return answers;\n}\n}\n").toString());
        check.holds("README.md shows answers", calls.size() > 50);
        for (int i = 0; i < calls.size(); i++) {
            check.due(calls.get(i), answers[i], due.get(i));
        }
    }

    private static long[] run(String program) throws Exception {
        Files.createDirectories(FOLDER);
        Path file = FOLDER.resolve("ReadmeRun.java");
        Files.writeString(file, program);
        Process javac = new ProcessBuilder("javac", "-cp", System.getProperty("java.class.path"),
            "-d", FOLDER.toString(), file.toString()).inheritIO().start();
        check.due("javac of the examples", javac.waitFor(), 0);
        try (URLClassLoader loader = new URLClassLoader(new URL[] {FOLDER.toUri().toURL()})) {
            return (long[]) loader.loadClass("ReadmeRun").getMethod("answers").invoke(null);
        }
    }

    /** Every call of the face has a row; the answers below 0 of many random calls are those that the rows name. */
    private static void table(String text) throws Exception {
        Map<String, String> told = new TreeMap<>();
        Map<String, Integer> numbers = new TreeMap<>();
        for (Matcher row = ROW.matcher(text); row.find();) {
            told.put(row.group(1), row.group(4));
            numbers.put(row.group(1), row.group(2).isEmpty() ? 0 : row.group(2).split(",").length);
        }
        Map<String, Set<Long>> seen = seen();
        check.holds("a row for every call", told.keySet().equals(seen.keySet()));
        for (Method m : face()) {
            check.due("numbers of " + m.getName(), numbers.getOrDefault(m.getName(), -1), m.getParameterCount());
        }
        for (String call : told.keySet()) {
            compare(call, told.get(call), seen.getOrDefault(call, Set.of()));
        }
    }

    private static void compare(String call, String row, Set<Long> seen) {
        Set<Long> named = new TreeSet<>();
        for (Matcher name = NAMED.matcher(row); name.find();) {
            named.add(number(name.group()));
        }
        for (long answer : named) {
            check.holds(call + " answers " + answer, seen.contains(answer));
        }
        for (long answer : seen) {
            boolean isWorth = row.matches(".*(WORTH|RULE|so much less).*") && answer > -10000000000L;
            boolean isPlace = row.contains("-100 less a place") && answer <= -100 && answer >= -260;
            boolean isDay = row.contains("-20 less a DAY") && answer <= -20 && answer >= -26;
            check.holds("README.md tells of " + call + ": " + answer,
                named.contains(answer) || isWorth || isPlace || isDay);
        }
    }

    private static List<Method> face() {
        List<Method> face = new ArrayList<>();
        for (Method m : MarketDays.class.getDeclaredMethods()) {
            if (Modifier.isPublic(m.getModifiers())) {
                face.add(m);
            }
        }
        face.sort((a, b) -> a.getName().compareTo(b.getName()));
        return face;
    }

    /** By the name of a call: its answers below 0, in random runs that are the same ones every time. */
    private static Map<String, Set<Long>> seen() throws Exception {
        Random random = new Random(1);
        List<Method> face = face();
        Map<String, Set<Long>> seen = new TreeMap<>();
        for (int run = 0; run < 150; run++) {
            MarketDays x = run % 3 == 0 ? Scene.bare() : run % 3 == 1 ? Scene.busy() : Scene.full();
            for (int i = 0; i < 300; i++) {
                Method m = face.get(random.nextInt(face.size()));
                long answer = ((Number) m.invoke(x, some(m, random))).longValue();
                Set<Long> below = seen.computeIfAbsent(m.getName(), name -> new TreeSet<>());
                if (answer < 0) {
                    below.add(answer);
                }
            }
        }
        return seen;
    }

    private static Object[] some(Method m, Random random) {
        Object[] numbers = new Object[m.getParameterCount()];
        for (int i = 0; i < numbers.length; i++) {
            int number = NUMBERS[random.nextInt(NUMBERS.length)];
            numbers[i] = number;
            if (m.getParameterTypes()[i] == long.class) {
                numbers[i] = (long) number;
            }
        }
        return numbers;
    }
}
