import java.io.IOException;
import java.lang.management.ManagementFactory;
import java.lang.reflect.Field;
import java.lang.reflect.Method;
import java.lang.reflect.Modifier;
import java.nio.file.Files;
import java.nio.file.Path;
import java.util.Arrays;
import java.util.Set;
import java.util.TreeSet;
import java.util.regex.Matcher;
import java.util.regex.Pattern;
import java.util.stream.Collectors;

/** The face of the class, what can be seen of ../shared/LANGUAGE.md from outside, and how little a call makes. */
public final class LanguageTest {
    private static final String[] FACE = {
        "int town(int)", "int road(int,int,int)", "int hours(int,int)", "int week(int)", "int want(int,int,int)",
        "int townTold(int,int)", "int feast(int,int)", "int feed(long,int)", "int text()", "int force(int)",
        "long says(int,int)", "long worthOf(int,int,int,int)", "int giving(int,int)", "int marketOf(int,int,int)",
        "int bar(int,int)", "int lawful(int,int)", "long judge(int,int,int)", "int givingTold(int,int)", "int can()",
        "long find(int,int)", "int foundDay(int)", "int least()", "int knot()", "int room(int,int,int)",
        "long hurt(int,int,int)", "int round(int,int,int,int,int)", "int roundTold(int)",
        "int walk(int,int,int,int,int)", "int count(int)", "int image()", "int back()", "int sheet(int,int,int)",
        "int cell(int,int,int)", "int copy(int,int,int,int,int)", "int roads(int,int,int,int)", "int taken(int,int)"};
    private static final String[] FORBIDDEN = {
        "\\b(throw|throws|try|catch|finally|synchronized|assert|protected|package|volatile|native|var)\\b",
        "->", "::", "\\bNaN\\b", "\\bSystem\\.(?!arraycopy)", "\\bThread\\b", "\\bRandom\\b", "\\bObject\\b",
        "Exact\\(", "\\bstatic \\{", "\\bhashCode\\b", "\\btoString\\b", "\" *\\+", "\\+ *\"", "[^\\x00-\\x7f]"};
    private static final Check check = new Check("LanguageTest");

    public static void main(String[] args) throws IOException {
        face();
        insides();
        words(Files.readString(Path.of("src/main/java/MarketDays.java")));
        whatCallsMake();
        check.end();
    }

    private static String told(Method m) {
        return m.getReturnType() + " " + m.getName() + Arrays.stream(m.getParameterTypes())
            .map(Class::getName).collect(Collectors.joining(",", "(", ")"));
    }

    private static void face() {
        Set<String> open = new TreeSet<>();
        Set<String> names = new TreeSet<>();
        for (Method m : MarketDays.class.getDeclaredMethods()) {
            if (Modifier.isPublic(m.getModifiers())) {
                open.add(told(m));
                names.add(m.getName());
            } else {
                check.holds(m + " is private", Modifier.isPrivate(m.getModifiers()) || m.isSynthetic());
            }
        }
        Set<String> due = new TreeSet<>(Arrays.asList(FACE));
        check.holds("the public methods are those of the document: " + open, open.equals(due));
        check.holds("one public constructor", MarketDays.class.getConstructors().length == 1
            && MarketDays.class.getDeclaredConstructors().length == 1);
        check.holds("final", Modifier.isFinal(MarketDays.class.getModifiers()));
        for (Class<?> c : MarketDays.class.getDeclaredClasses()) {
            for (Method m : c.getDeclaredMethods()) {
                check.holds(m + " bears no public method's name", !names.contains(m.getName()));
            }
        }
    }

    private static void insides() {
        Class<?>[] classes = MarketDays.class.getDeclaredClasses();
        check.holds("some twelve classes", classes.length + 1 <= 12);
        for (Class<?> c : classes) {
            check.holds(c + " is static", Modifier.isStatic(c.getModifiers()) && !Modifier.isPublic(c.getModifiers()));
            fields(c);
        }
        for (Field f : MarketDays.class.getDeclaredFields()) {
            boolean isConstant = Set.of("NONE", "BAD", "STATE", "FULL", "NO").contains(f.getName());
            check.holds(f + " is private or of the face", isConstant || Modifier.isPrivate(f.getModifiers()));
        }
        fields(MarketDays.class);
    }

    private static void fields(Class<?> c) {
        int own = 0;
        for (Field f : c.getDeclaredFields()) {
            own += Modifier.isStatic(f.getModifiers()) ? 0 : 1;
            check.holds(f + ", static, is final", !Modifier.isStatic(f.getModifiers()) || Modifier.isFinal(f.getModifiers()));
        }
        check.holds(c + " has some twenty fields", own <= 20);
        for (Method m : c.getDeclaredMethods()) {
            check.holds(m + " takes at most seven", m.getParameterCount() <= 7);
        }
    }

    private static void words(String source) {
        String code = source.replaceAll("(?s)/\\*.*?\\*/", "").replaceAll("//[^\n]*", "");
        for (String word : FORBIDDEN) {
            Matcher m = Pattern.compile(word).matcher(code);
            check.holds("no " + word + " in the program", !m.find());
        }
        int since = 0;
        int longest = 0;
        String[] lines = source.split("\n");
        for (int i = 0; i < lines.length; i++) {
            if (lines[i].matches(" {4}( {4})?\\}")) {
                longest = Math.max(longest, i - since);
            }
            if (lines[i].matches(" {4}( {4})?[a-z].*\\) \\{")) {
                since = i;
            }
            check.holds("line " + (i + 1) + " is not too long", lines[i].length() <= 120);
        }
        check.holds("methods stay short", longest > 10 && longest <= 60);
    }

    /** All calls of a run live in one room: 512 calls of the dearest kinds must make next to nothing. */
    private static void whatCallsMake() {
        com.sun.management.ThreadMXBean meter = (com.sun.management.ThreadMXBean) ManagementFactory.getThreadMXBean();
        long self = Thread.currentThread().getId();
        dearCalls(new MarketDays(), 2);
        MarketDays x = Make.towns(1, 2, 3, 4, 5, 6);
        long before = meter.getThreadAllocatedBytes(self);
        dearCalls(x, 16);
        long made = meter.getThreadAllocatedBytes(self) - before;
        check.holds("some 500 calls make " + made + " bytes", made < 20000);
        before = meter.getThreadAllocatedBytes(self);
        new MarketDays();
        made = meter.getThreadAllocatedBytes(self) - before;
        check.holds("an object takes " + made + " bytes", made < 40000);
    }

    private static void dearCalls(MarketDays x, int times) {
        for (int i = 0; i < times; i++) {
            x.sheet(0, 2, 6);
            x.giving(2, 0);
            x.feed(0x6e65617220313b77L, 8);
            x.feed(0x6f72746820313b20L, 8);
            x.text();
            x.feed(0x6e65617220313b77L, 8);
            x.text();
            x.force(i % 2);
            x.feast(i, 0);
            x.image();
            x.back();
            x.can();
            x.least();
            x.knot();
            x.find(1, 0);
            x.find(2, 0);
            x.find(3, 0);
            x.lawful(0, 99);
            x.bar(0, 1);
            x.judge(0, 1, -1);
            x.hurt(0, 1, 1);
            x.room(0, 1, 1);
            x.round(0, 0, 0, 50, 40);
            x.walk(0, 0, 0, 50, 0);
            x.copy(0, 0, 0, 1, 5);
            x.roads(0, 2, 0, 2);
            x.road(0, 1, i);
            x.week(2 + i % 6);
        }
    }
}
