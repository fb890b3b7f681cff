import java.util.Random;

/** Random runs of calls, the same ones every time, on a MarketDays and on the Model: no answer may differ. */
public final class ModelTest {
    private static final int RUNS = Integer.getInteger("runs", 300);
    private static final int CALLS = 300;
    private static final Check check = new Check("ModelTest");

    private final Random random;
    private final MarketDays x = new MarketDays();
    private final Model m = new Model();
    private final int run;
    private int costly = 0;

    private ModelTest(int run) {
        this.run = run;
        this.random = new Random(run);
    }

    public static void main(String[] args) {
        for (int run = 0; run < RUNS; run++) {
            ModelTest test = new ModelTest(run);
            test.settle();
            for (int call = 0; call < CALLS; call++) {
                test.call();
            }
        }
        check.end();
    }

    private void same(String call, long got, long want) {
        check.promise(0, "run " + run);
        check.due(call, got, want);
    }

    /** Every fourth run begins with nothing, the others with TOWNS and ROADS. */
    private void settle() {
        if (run % 4 == 0) {
            return;
        }
        int towns = 2 + random.nextInt(5);
        for (int t = 0; t < towns; t++) {
            int big = random.nextInt(20);
            same("town(" + big + ")", x.town(big), m.town(big));
        }
        for (int i = 0; i < towns + 1; i++) {
            int a = random.nextInt(towns);
            int b = random.nextInt(towns);
            int v = random.nextInt(6);
            same("road(" + a + ", " + b + ", " + v + ")", x.road(a, b, v), m.road(a, b, v));
        }
        if (random.nextBoolean()) {
            rules();
        }
    }

    /** Mostly 0 .. high - 1, now and then a little outside. */
    private int some(int high) {
        int dice = random.nextInt(25);
        return dice == 0 ? -1 - random.nextInt(2) : dice == 1 ? high + random.nextInt(3) : random.nextInt(Math.max(1, high));
    }

    private int someTown() {
        return some(m.count(0));
    }

    private int someGiving() {
        return some(m.count(3));
    }

    private int someWeek() {
        return random.nextInt(3) == 0 ? some(100) : some(8);
    }

    private void call() {
        switch (random.nextInt(14)) {
            case 0 -> land();
            case 1, 2 -> wants();
            case 3 -> host();
            case 4 -> rules();
            case 5, 6 -> telling();
            case 7, 8, 9 -> judging();
            case 10 -> finding();
            case 11 -> rounds();
            case 12 -> makeGiving();
            default -> roomAndHurt();
        }
    }

    private void land() {
        int a = someTown();
        int b = someTown();
        int v = some(random.nextBoolean() ? 51 : 6);
        switch (random.nextInt(9)) {
            case 0, 1 -> {
                int big = some(random.nextBoolean() ? 100 : 12);
                if (m.count(0) < 4 + run % 3 || random.nextInt(30) == 0) {
                    same("town(" + big + ")", x.town(big), m.town(big));
                }
            }
            case 2, 3, 4 -> same("road(" + a + ", " + b + ", " + v + ")", x.road(a, b, v), m.road(a, b, v));
            case 5 -> {
                int n = random.nextInt(4) == 0 ? some(9) : 2 + random.nextInt(4);
                same("week(" + n + ")", x.week(n), m.week(n));
            }
            case 6 -> {
                int w = someWeek();
                int d = some(7);
                same("feast(" + w + ", " + d + ")", x.feast(w, d), m.feast(w, d));
            }
            case 7 -> same("image()", x.image(), m.image());
            default -> same("back()", x.back(), m.back());
        }
    }

    private void wants() {
        int t = someTown();
        int what = some(3);
        int v = what == 0 ? random.nextInt(3) == 0 ? some(128) : 127 - (1 << random.nextInt(7))
            : random.nextInt(3) == 0 ? -1 : what == 1 ? some(7) : someTown();
        if (what != 2 || random.nextInt(3) == 0) {
            same("want(" + t + ", " + what + ", " + v + ")", x.want(t, what, v), m.want(t, what, v));
        }
    }

    private void host() {
        int s = some(4);
        int other = some(4);
        int sort = random.nextInt(12) == 0 ? -1 : some(3);
        int n = random.nextInt(4) == 0 ? some(41) : some(9);
        int i = some(n);
        int j = some(8);
        switch (random.nextInt(5)) {
            case 0 -> same("sheet(" + s + ", " + sort + ", " + n + ")", x.sheet(s, sort, n), m.sheet(s, sort, n));
            case 1, 2 -> {
                int v = random.nextInt(5) == 0 ? random.nextInt() : some(8);
                same("cell(" + s + ", " + i + ", " + v + ")", x.cell(s, i, v), m.cell(s, i, v));
            }
            case 3 -> same("copy(" + s + ", " + i + ", " + other + ", " + j + ", " + n + ")",
                x.copy(s, i, other, j, n), m.copy(s, i, other, j, n));
            default -> same("roads(" + s + ", " + sort + ", " + i + ", " + j + ")",
                x.roads(s, sort, i, j), m.roads(s, sort, i, j));
        }
    }

    private void rules() {
        String text = "near " + either(2) + ";worth " + either(3) + ";";
        if (random.nextInt(3) == 0) {
            text = spoiled(text);
        }
        if (text.length() > 160) {
            return;
        }
        for (int i = 0; i < text.length(); i++) {
            x.feed(text.charAt(i), 1);
            m.feed(text.charAt(i), 1);
        }
        same("text() of " + text, x.text(), m.text());
        if (m.count(6) > 100) {
            same("feed(7, 8)", x.feed(7, 8), m.feed(7, 8));
        }
        int t = some(m.count(4));
        same("force(" + t + ")", x.force(t), m.force(t));
    }

    private String pick(String... words) {
        return words[random.nextInt(words.length)];
    }

    /** With one place cut out and something else put there. */
    private String spoiled(String text) {
        int from = random.nextInt(text.length() + 1);
        int to = Math.min(text.length(), from + random.nextInt(4));
        return text.substring(0, from) + pick("", " or ", "and", "not ", "-", "--", "((", ")", " ", "\n", "+", "*", "<",
            "=", ";", ";worth ", "near", "hours", "0", " 00007", "99999", "a", "$", "week") + text.substring(to);
    }

    private String either(int depth) {
        return random.nextInt(4) == 0 ? both(depth) + " or " + both(depth) : both(depth);
    }

    private String both(int depth) {
        return random.nextInt(4) == 0 ? not(depth) + " and " + not(depth) : not(depth);
    }

    private String not(int depth) {
        return random.nextInt(5) == 0 ? pick("not ", "not not ") + not(depth)
            : random.nextInt(3) == 0 ? sum(depth) + pick("<", "=", " < ") + sum(depth) : sum(depth);
    }

    private String sum(int depth) {
        return random.nextInt(2) == 0 ? term(depth) + pick("+", "-", " - ") + term(depth) : term(depth);
    }

    private String term(int depth) {
        return random.nextInt(3) == 0 ? one(depth) + "*" + one(depth) : one(depth);
    }

    private String one(int depth) {
        int dice = random.nextInt(10);
        return dice == 0 ? pick("-", "--", "---") + one(depth) : dice < 3 && depth > 0 ? "(" + either(depth - 1) + ")"
            : dice < 5 ? String.valueOf(random.nextInt(pick("9", "999").length() == 1 ? 10 : 1000))
            : pick("hours", "hours", "size", "other", "day", "want", "week");
    }

    private void telling() {
        int a = someTown();
        int b = someTown();
        int what = some(7);
        int w = someWeek();
        int d = some(7);
        int n = some(7);
        same("count(" + what + ")", x.count(what), m.count(what));
        switch (random.nextInt(8)) {
            case 0 -> same("hours(" + a + ", " + b + ")", x.hours(a, b), m.hours(a, b));
            case 1 -> same("townTold(" + a + ", " + what + ")", x.townTold(a, what), m.townTold(a, what));
            case 2 -> same("says(" + a + ", " + b + ")", x.says(a, b), m.says(a, b));
            case 3 -> same("worthOf(" + a + ", " + d + ", " + w + ", " + n + ")",
                x.worthOf(a, d, w, n), m.worthOf(a, d, w, n));
            case 4 -> same("givingTold(" + b + ", " + what + ")", x.givingTold(b, what), m.givingTold(b, what));
            case 5 -> same("foundDay(" + a + ")", x.foundDay(a), m.foundDay(a));
            case 6 -> same("roundTold(" + d + ")", x.roundTold(d), m.roundTold(d));
            default -> {
                int i = some(18);
                same("taken(" + i + ", " + what + ")", x.taken(i, what), m.taken(i, what));
            }
        }
    }

    private void judging() {
        int g = someGiving();
        int t = random.nextInt(3) == 0 ? -1 : someTown();
        int w = someWeek();
        same("marketOf(" + g + ", " + t + ", " + w + ")", x.marketOf(g, t, w), m.marketOf(g, t, w));
        same("bar(" + g + ", " + w + ")", x.bar(g, w), m.bar(g, w));
        same("judge(" + g + ", " + w + ", " + t + ")", x.judge(g, w, t), m.judge(g, w, t));
        if (random.nextInt(4) == 0) {
            same("lawful(" + g + ", " + w + ")", x.lawful(g, w), m.lawful(g, w));
        }
    }

    private void roomAndHurt() {
        int g = someGiving();
        int t = someTown();
        int w = someWeek();
        same("room(" + g + ", " + t + ", " + w + ")", x.room(g, t, w), m.room(g, t, w));
        same("hurt(" + g + ", " + t + ", " + w + ")", x.hurt(g, t, w), m.hurt(g, t, w));
    }

    /** The Model tries all ways: large ones only a few times a run. */
    private boolean isCheap() {
        boolean large = Math.pow(m.count(0), m.count(1)) > 20000 || Math.pow(m.count(1), m.count(0)) > 20000;
        costly += large ? 1 : 0;
        return !large || costly <= 2;
    }

    private void finding() {
        if (!isCheap()) {
            return;
        }
        int g = someGiving();
        int aims = some(4);
        switch (random.nextInt(6)) {
            case 0 -> same("can()", x.can(), m.can());
            case 1 -> same("least()", x.least(), m.least());
            case 2 -> same("knot()", x.knot(), m.knot());
            default -> same("find(" + aims + ", " + g + ")", x.find(aims, g), m.find(aims, g));
        }
        for (int t = 0; t <= m.count(0); t++) {
            same("foundDay(" + t + ")", x.foundDay(t), m.foundDay(t));
        }
    }

    private void rounds() {
        int g = someGiving();
        int w = someWeek();
        int home = someTown();
        int stride = some(random.nextBoolean() ? 51 : 8);
        int s = some(4);
        same("walk(" + g + ", " + w + ", " + home + ", " + stride + ", " + s + ")",
            x.walk(g, w, home, stride, s), m.walk(g, w, home, stride, s));
        if (!isCheap()) {
            return;
        }
        int pack = random.nextBoolean() ? 40 : some(41);
        same("round(" + g + ", " + w + ", " + home + ", " + stride + ", " + pack + ")",
            x.round(g, w, home, stride, pack), m.round(g, w, home, stride, pack));
        for (int d = 0; d <= m.count(1); d++) {
            same("roundTold(" + d + ")", x.roundTold(d), m.roundTold(d));
        }
    }

    private void makeGiving() {
        int s = random.nextInt(4);
        boolean forWalk = random.nextInt(3) == 0;
        int n = m.count(forWalk ? 1 : 0);
        same("sheet(" + s + ", 0, " + n + ")", x.sheet(s, 0, n), m.sheet(s, 0, n));
        for (int i = 0; i < n; i++) {
            int v = random.nextInt(Math.max(1, m.count(forWalk ? 0 : 1)));
            same("cell(" + s + ", " + i + ", " + v + ")", x.cell(s, i, v), m.cell(s, i, v));
        }
        int kind = some(6);
        if (!forWalk && (m.count(3) < m.count(0) * 3 || random.nextInt(20) == 0)) {
            same("giving(" + kind + ", " + s + ")", x.giving(kind, s), m.giving(kind, s));
        }
    }
}
