import java.util.ArrayList;
import java.util.Arrays;
import java.util.HashMap;
import java.util.List;
import java.util.Map;
import java.util.TreeSet;
import java.util.function.Function;

/** The document once more, as plainly as can be and with the whole Java library, for ModelTest to compare with. */
final class Model {
    private static final long NO = -4611686018427387904L;

    private static final class Town {
        int size;
        int may = 127;
        int wish = -1;
        int behind = -1;

        Town(int size) {
            this.size = size;
        }

        Town copy() {
            Town t = new Town(size);
            t.may = may;
            t.wish = wish;
            t.behind = behind;
            return t;
        }
    }

    private record Feast(int week, int day) {
    }

    private record Giving(int kind, List<Integer> numbers) {
    }

    private record Text(Function<Map<String, Integer>, Integer> near, Function<Map<String, Integer>, Integer> worth) {
    }

    private record Image(List<Town> towns, int[][] roads, int week, List<Feast> feasts, int rule) {
    }

    private final List<Town> towns = new ArrayList<>();
    private int[][] roads = new int[6][6];
    private int week = 6;
    private List<Feast> feasts = new ArrayList<>();
    private String tape = "";
    private final List<Text> texts = new ArrayList<>();
    private int rule = 0;
    private final List<Giving> givings = new ArrayList<>();
    private int[] found = {};
    private int[] round = {};
    private Image image = null;
    private final int[][] sheets = new int[4][];
    private final int[] sorts = {-1, -1, -1, -1};

    Model() {
        texts.add(new ModelReader("near hours < 4 ; worth 10 - other * 2 + want * 5 ;").text(Text::new));
    }

    private boolean isTown(int t) {
        return 0 <= t && t < towns.size();
    }

    private boolean isGiving(int g) {
        return 0 <= g && g < givings.size();
    }

    private static boolean in(int v, int low, int high) {
        return low <= v && v <= high;
    }

    int town(int big) {
        if (!in(big, 0, 99)) {
            return -2;
        }
        if (towns.size() == 6) {
            return -4;
        }
        towns.add(new Town(big));
        return towns.size() - 1;
    }

    int road(int a, int b, int hours) {
        if (!isTown(a) || !isTown(b)) {
            return -1;
        }
        if (a == b || !in(hours, 0, 50)) {
            return -2;
        }
        int was = roads[a][b];
        roads[a][b] = roads[b][a] = hours;
        return was;
    }

    int hours(int a, int b) {
        return isTown(a) && isTown(b) ? way(a, b, new TreeSet<>()) : -1;
    }

    /** The least sum over all ways that pass no TOWN twice. */
    private int way(int a, int b, TreeSet<Integer> passed) {
        if (a == b) {
            return 0;
        }
        int least = 99;
        passed.add(a);
        for (int next = 0; next < towns.size(); next++) {
            if (roads[a][next] > 0 && !passed.contains(next)) {
                least = Math.min(least, roads[a][next] + way(next, b, passed));
            }
        }
        passed.remove(a);
        return least;
    }

    int week(int n) {
        if (!in(n, 2, 7)) {
            return -2;
        }
        int was = week;
        week = n;
        return was;
    }

    int want(int t, int what, int v) {
        if (!isTown(t)) {
            return -5;
        }
        Town town = towns.get(t);
        int was;
        if (what == 0 && in(v, 0, 127)) {
            was = town.may;
            town.may = v;
        } else if (what == 1 && in(v, -1, 6)) {
            was = town.wish;
            town.wish = v;
        } else if (what == 2 && (v == -1 || isTown(v)) && v != t) {
            was = town.behind;
            town.behind = v;
        } else {
            return -7;
        }
        return was;
    }

    int townTold(int t, int what) {
        if (!isTown(t)) {
            return -5;
        }
        Town town = towns.get(t);
        return in(what, 0, 3) ? List.of(town.size, town.may, town.wish, town.behind).get(what) : -7;
    }

    int feast(int w, int d) {
        if (!in(w, 0, 99) || !in(d, 0, 6)) {
            return -2;
        }
        if (feasts.size() == 10) {
            return -4;
        }
        feasts.add(new Feast(w, d));
        return feasts.size();
    }

    int feed(long w, int n) {
        if (!in(n, 1, 8)) {
            return -2;
        }
        if (tape.length() + n > 160) {
            return -4;
        }
        StringBuilder bytes = new StringBuilder();
        for (int i = 0; i < n; i++) {
            bytes.insert(0, (char) (w & 255));
            w >>= 8;
        }
        tape += bytes;
        return tape.length();
    }

    int text() {
        if (texts.size() == 6) {
            return -4;
        }
        String all = tape;
        tape = "";
        try {
            texts.add(new ModelReader(all).text(Text::new));
            return texts.size() - 1;
        } catch (ModelReader.Fault fault) {
            return -100 - fault.place;
        }
    }

    int force(int t) {
        if (!in(t, 0, texts.size() - 1)) {
            return -2;
        }
        int was = rule;
        rule = t;
        return was;
    }

    private int near(int a, int b, int days) {
        return texts.get(rule).near.apply(Map.of("hours", hours(a, b), "size", towns.get(a).size,
            "other", towns.get(b).size, "day", 0, "want", 0, "week", days));
    }

    private int worth(int t, int d, int hours, int others) {
        int worth = texts.get(rule).worth.apply(Map.of("hours", hours, "size", towns.get(t).size,
            "other", others, "day", d, "want", towns.get(t).wish == d ? 1 : 0, "week", week));
        return worth > 999 ? 999 : worth < -999 ? -999 : worth;
    }

    long says(int a, int b) {
        return isTown(a) && isTown(b) && a != b ? near(a, b, week) : NO;
    }

    long worthOf(int t, int d, int hours, int others) {
        boolean told = isTown(t) && in(d, 0, week - 1) && in(hours, 0, 99) && in(others, 0, 6);
        return told ? worth(t, d, hours, others) : NO;
    }

    int giving(int kind, int s) {
        if (!in(kind, 0, 5) || !in(s, 0, 3)) {
            return -2;
        }
        if (sheets[s] == null) {
            return -11;
        }
        int most = kind == 1 || kind == 5 ? 7 : week - 1;
        if (sheets[s].length != towns.size() || Arrays.stream(sheets[s]).anyMatch(v -> !in(v, 0, most))) {
            return -2;
        }
        if (givings.size() == 12) {
            return -4;
        }
        givings.add(new Giving(kind, Arrays.stream(sheets[s]).boxed().toList()));
        return givings.size() - 1;
    }

    private TreeSet<Integer> market(int g, int t, int w) {
        Giving giving = givings.get(g);
        TreeSet<Integer> days = new TreeSet<>();
        if (t >= giving.numbers.size() || giving.numbers.get(t) >= week) {
            return days;
        }
        int d = giving.numbers.get(t);
        int kind = giving.kind;
        int on = kind == 3 ? w : kind == 4 ? w + w % 2 * 2 : 0;
        days.add((d + on) % week);
        if (kind == 2) {
            days.add((d + week / 2) % week);
        }
        for (Feast feast : feasts) {
            if (kind != 5 && feast.week == w && days.remove(feast.day)) {
                days.add((feast.day + 1) % week);
            }
        }
        return days;
    }

    private List<TreeSet<Integer>> markets(int g, int w) {
        List<TreeSet<Integer>> all = new ArrayList<>();
        for (int t = 0; t < towns.size(); t++) {
            all.add(market(g, t, w));
        }
        return all;
    }

    private static int bits(TreeSet<Integer> days) {
        return days.stream().mapToInt(d -> 1 << d).sum();
    }

    int marketOf(int g, int t, int w) {
        return isGiving(g) && isTown(t) && in(w, 0, 99) ? bits(market(g, t, w)) : -5;
    }

    private boolean bar(List<TreeSet<Integer>> markets, int a, int b, int days) {
        TreeSet<Integer> one = markets.get(a);
        TreeSet<Integer> two = markets.get(b);
        if (a == b) {
            return one.stream().anyMatch(d -> (towns.get(a).may >> d & 1) == 0);
        }
        if (one.stream().anyMatch(two::contains) && near(Math.min(a, b), Math.max(a, b), days) != 0) {
            return true;
        }
        return towns.get(a).behind == b && !follows(one, two, days) || towns.get(b).behind == a && !follows(two, one, days);
    }

    private static boolean follows(TreeSet<Integer> it, TreeSet<Integer> other, int days) {
        return it.isEmpty() || other.isEmpty() || other.stream().anyMatch(d -> it.contains((d + 1) % days));
    }

    private int firstBar(List<TreeSet<Integer>> markets, int days) {
        for (int number = 0; number < 60; number++) {
            int a = number / 10;
            int b = number % 10;
            if (a <= b && isTown(a) && isTown(b) && bar(markets, a, b, days)) {
                return number;
            }
        }
        return -1;
    }

    int bar(int g, int w) {
        return isGiving(g) && in(w, 0, 99) ? firstBar(markets(g, w), week) : -5;
    }

    int lawful(int g, int w) {
        if (!isGiving(g) || !in(w, 0, 99)) {
            return -5;
        }
        int many = 0;
        for (int i = 0; i <= w; i++) {
            many += bar(g, i) == -1 ? 1 : 0;
        }
        return many;
    }

    private int worthOfTown(List<TreeSet<Integer>> markets, int kind, int t) {
        int sum = 0;
        for (int d : markets.get(t)) {
            int hours = 99;
            int others = 0;
            for (int other = 0; other < towns.size(); other++) {
                if (other != t && markets.get(other).contains((d + week - 1) % week)) {
                    hours = Math.min(hours, hours(t, other));
                }
                others += other != t && markets.get(other).contains(d) ? 1 : 0;
            }
            sum += worth(t, d, hours, others);
        }
        int part = markets.get(t).isEmpty() ? -1 : sum;
        return List.of(sum, part, sum / 2, sum - 2, sum - 2, part + 1).get(kind);
    }

    private int worthOfAll(List<TreeSet<Integer>> markets, int kind, int but) {
        int sum = 0;
        for (int t = 0; t < towns.size(); t++) {
            sum += t == but ? 0 : worthOfTown(markets, kind, t);
        }
        return sum;
    }

    long judge(int g, int w, int t) {
        if (!isGiving(g) || !in(w, 0, 99) || t != -1 && !isTown(t)) {
            return NO;
        }
        int kind = givings.get(g).kind;
        return t == -1 ? worthOfAll(markets(g, w), kind, -1) : worthOfTown(markets(g, w), kind, t);
    }

    int givingTold(int g, int what) {
        if (!isGiving(g)) {
            return -5;
        }
        Giving giving = givings.get(g);
        return in(what, 0, 2) ? List.of(giving.kind, giving.numbers.size(), giving.kind == 5 ? 0 : 1).get(what) : -7;
    }

    /** All lawful ways of these TOWNS in a WEEK of so many DAYS, in their order; -1 for TOWNS without a DAY. */
    private List<int[]> ways(int who, int days) {
        boolean[][] near = new boolean[6][6];
        for (int a = 0; a < towns.size(); a++) {
            for (int b = a + 1; b < towns.size(); b++) {
                near[a][b] = near(a, b, days) != 0;
            }
        }
        List<int[]> ways = new ArrayList<>();
        int[] way = new int[towns.size()];
        int all = 1;
        for (int t = 0; t < towns.size(); t++) {
            all *= days;
        }
        for (int number = 0; number < all; number++) {
            int rest = number;
            boolean fits = true;
            for (int t = towns.size() - 1; t >= 0; t--) {
                way[t] = rest % days;
                rest /= days;
                if ((who >> t & 1) == 0) {
                    fits &= way[t] == 0;
                    way[t] = -1;
                }
            }
            if (fits && isLawful(way, near, days)) {
                ways.add(way.clone());
            }
        }
        return ways;
    }

    private boolean isLawful(int[] way, boolean[][] near, int days) {
        for (int a = 0; a < way.length; a++) {
            if (way[a] >= 0 && (towns.get(a).may >> way[a] & 1) == 0) {
                return false;
            }
            int leader = towns.get(a).behind;
            if (leader >= 0 && way[a] >= 0 && way[leader] >= 0 && way[a] != (way[leader] + 1) % days) {
                return false;
            }
            for (int b = a + 1; b < way.length; b++) {
                if (way[a] >= 0 && way[a] == way[b] && near[a][b]) {
                    return false;
                }
            }
        }
        return true;
    }

    int can() {
        return Math.min(100000, ways(63, week).size());
    }

    long find(int aims, int g) {
        if (!in(aims, 1, 3) || aims == 3 && !isGiving(g)) {
            return NO;
        }
        found = new int[0];
        Map<String, Integer> known = new HashMap<>();
        long best = NO;
        for (int[] way : ways(63, week)) {
            long score = aims == 1 ? 1 : aims == 2 ? worthOfWay(way, known) : -others(way, g);
            if (best == NO || score > best) {
                best = score;
                found = way;
            }
        }
        return best == NO ? NO + 1 : aims == 3 ? -best : best;
    }

    private int others(int[] way, int g) {
        List<Integer> numbers = givings.get(g).numbers;
        int others = 0;
        for (int t = 0; t < way.length; t++) {
            others += t < numbers.size() && numbers.get(t) == way[t] ? 0 : 1;
        }
        return others;
    }

    private int worthOfWay(int[] way, Map<String, Integer> known) {
        int sum = 0;
        for (int t = 0; t < way.length; t++) {
            int at = t;
            int d = way[t];
            StringBuilder key = new StringBuilder().append(t).append(' ').append(d).append(' ');
            for (int u = 0; u < way.length; u++) {
                key.append(way[u] == d ? 's' : (way[u] + 1) % week == d ? 'a' : '.');
            }
            sum += known.computeIfAbsent(key.toString(), k -> {
                List<TreeSet<Integer>> markets = new ArrayList<>();
                for (int day : way) {
                    markets.add(new TreeSet<>(List.of(day)));
                }
                return worthOfTown(markets, 0, at);
            });
        }
        return sum;
    }

    int foundDay(int t) {
        return in(t, 0, found.length - 1) ? found[t] : -1;
    }

    int least() {
        for (int days = 2; days <= 7; days++) {
            if (!ways(63, days).isEmpty()) {
                return days;
            }
        }
        return -1;
    }

    int knot() {
        int knot = 0;
        for (int who = 1; who < 1 << towns.size(); who++) {
            boolean fewer = knot == 0 || Integer.bitCount(who) < Integer.bitCount(knot);
            if (fewer && ways(who, week).isEmpty()) {
                knot = who;
            }
        }
        return knot;
    }

    int room(int g, int t, int w) {
        if (!isGiving(g) || !isTown(t) || !in(w, 0, 99)) {
            return -5;
        }
        TreeSet<Integer> room = new TreeSet<>();
        for (int d = 0; d < week; d++) {
            List<TreeSet<Integer>> markets = markets(g, w);
            markets.set(t, new TreeSet<>(List.of(d)));
            boolean bars = false;
            for (int other = 0; other < towns.size(); other++) {
                bars |= bar(markets, t, other, week);
            }
            if (!bars) {
                room.add(d);
            }
        }
        return bits(room);
    }

    long hurt(int g, int t, int w) {
        if (!isGiving(g) || !isTown(t) || !in(w, 0, 99)) {
            return NO;
        }
        List<TreeSet<Integer>> without = markets(g, w);
        without.set(t, new TreeSet<>());
        int kind = givings.get(g).kind;
        return worthOfAll(without, kind, t) - worthOfAll(markets(g, w), kind, t);
    }

    int round(int g, int w, int home, int stride, int pack) {
        if (!isGiving(g) || !in(w, 0, 99) || !isTown(home) || !in(stride, 0, 50) || !in(pack, 0, 40)) {
            return -2;
        }
        int[] best = null;
        int most = -1;
        int[] stops = new int[week];
        int all = (int) Math.pow(towns.size(), week);
        int[][] hours = new int[6][6];
        for (int i = 0; i < 36; i++) {
            hours[i / 6][i % 6] = hours(i / 6, i % 6);
        }
        List<TreeSet<Integer>> markets = markets(g, w);
        for (int number = 0; number < all; number++) {
            int rest = number;
            for (int d = week - 1; d >= 0; d--) {
                stops[d] = rest % towns.size();
                rest /= towns.size();
            }
            int sold = sold(markets, hours, stops, home, stride, pack);
            if (sold > most) {
                most = sold;
                best = stops.clone();
            }
        }
        round = best;
        return most;
    }

    private int sold(List<TreeSet<Integer>> markets, int[][] hours, int[] stops, int home, int stride, int pack) {
        int here = home;
        int left = pack;
        for (int d = 0; d < week; d++) {
            if (hours[here][stops[d]] > stride) {
                return -20 - d;
            }
            here = stops[d];
            if (markets.get(here).contains(d)) {
                left -= Math.min(left, towns.get(here).size);
            }
        }
        return here == home ? pack - left : -100;
    }

    int roundTold(int d) {
        return in(d, 0, round.length - 1) ? round[d] : -1;
    }

    int walk(int g, int w, int home, int stride, int s) {
        if (!isGiving(g) || !in(w, 0, 99) || !isTown(home) || !in(stride, 0, 50) || !in(s, 0, 3)) {
            return -2;
        }
        if (sheets[s] == null) {
            return -11;
        }
        if (sheets[s].length != week || !Arrays.stream(sheets[s]).allMatch(this::isTown)) {
            return -2;
        }
        int[][] hours = new int[6][6];
        for (int i = 0; i < 36; i++) {
            hours[i / 6][i % 6] = hours(i / 6, i % 6);
        }
        return sold(markets(g, w), hours, sheets[s], home, stride, 40);
    }

    int count(int what) {
        return in(what, 0, 6) ? List.of(towns.size(), week, feasts.size(), givings.size(), texts.size(), rule,
            tape.length()).get(what) : -2;
    }

    int image() {
        int[][] copy = new int[6][];
        for (int t = 0; t < 6; t++) {
            copy[t] = roads[t].clone();
        }
        image = new Image(towns.stream().map(Town::copy).toList(), copy, week, List.copyOf(feasts), rule);
        return towns.size();
    }

    int back() {
        if (image == null) {
            return -3;
        }
        int then = image.towns.size();
        for (int t = 0; t < then; t++) {
            towns.set(t, image.towns.get(t).copy());
        }
        for (int a = 0; a < 6; a++) {
            for (int b = 0; b < 6; b++) {
                roads[a][b] = a < then && b < then ? image.roads[a][b] : a >= then && b >= then ? roads[a][b] : 0;
            }
        }
        week = image.week;
        feasts = new ArrayList<>(image.feasts);
        rule = image.rule;
        return towns.size();
    }

    int sheet(int s, int sort, int n) {
        if (!in(s, 0, 3) || !in(sort, -1, 2) || sort >= 0 && n > 40) {
            return -2;
        }
        if (sort >= 0 && n < 0) {
            return -14;
        }
        sheets[s] = sort < 0 ? null : new int[n];
        sorts[s] = sort;
        return 1;
    }

    int cell(int s, int i, int v) {
        if (!in(s, 0, 3)) {
            return -2;
        }
        if (sheets[s] == null) {
            return -11;
        }
        if (!in(i, 0, sheets[s].length - 1)) {
            return -12;
        }
        sheets[s][i] = sorts[s] == 0 ? (byte) v : sorts[s] == 1 ? (short) v : v;
        return 1;
    }

    int copy(int s, int i, int other, int j, int n) {
        if (!in(s, 0, 3) || !in(other, 0, 3)) {
            return -2;
        }
        if (sheets[s] == null || sheets[other] == null) {
            return -11;
        }
        if (sorts[s] != sorts[other]) {
            return -13;
        }
        try {
            System.arraycopy(sheets[s], i, sheets[other], j, n);
            return n;
        } catch (IndexOutOfBoundsException outside) {
            return -12;
        }
    }

    int roads(int s, int sort, int at, int n) {
        if (!in(s, 0, 3) || !in(sort, 0, 2) || !in(n, 0, 13)) {
            return -2;
        }
        if (sheets[s] == null) {
            return -11;
        }
        if (sorts[s] != sort) {
            return -13;
        }
        int told = 0;
        try {
            for (int k = 0; k < n; k++) {
                int[] row = sheets[s];
                told += road(row[at + 3 * k], row[at + 3 * k + 1], row[at + 3 * k + 2]) >= 0 ? 1 : 0;
            }
        } catch (IndexOutOfBoundsException outside) {
            return -12;
        }
        return told;
    }

    int taken(int i, int kind) {
        if (!in(kind, 0, 6)) {
            return -2;
        }
        if (!in(i, 0, 17)) {
            return -12;
        }
        if (i < 6 ? !isTown(i) : !isGiving(i - 6)) {
            return -11;
        }
        if (i < 6) {
            return kind == 6 ? towns.get(i).size : -13;
        }
        List<List<Integer>> kinds = List.of(List.of(0), List.of(1, 0), List.of(2, 0), List.of(3, 0),
            List.of(4, 3, 0), List.of(5, 1, 0));
        return kinds.get(givings.get(i - 6).kind).contains(kind) ? i - 6 : -13;
    }
}
