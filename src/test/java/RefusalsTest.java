import java.util.ArrayList;
import java.util.Arrays;
import java.util.List;
import java.util.function.Supplier;
import java.util.function.ToLongFunction;

/**
 * Every refused call, alone and together with all other grounds that it can be refused for: "of several the first one
 * told"; "They change nothing". Good and bad numbers are tried in all ways to put them together.
 */
public final class RefusalsTest {
    private static final int NONE = MarketDays.NONE, BAD = MarketDays.BAD, STATE = MarketDays.STATE;
    private static final int FULL = MarketDays.FULL;
    private static final long NO = MarketDays.NO;
    private static final int LOW = Integer.MIN_VALUE, HIGH = Integer.MAX_VALUE;
    /** What a call is due that is not refused: such calls are left out here. */
    private static final long TAKEN = Long.MAX_VALUE;

    private static final Check check = new Check("RefusalsTest");

    /** Makes objects that are all alike, and knows how they look untouched. */
    private static final class Stage {
        final Supplier<MarketDays> make;
        final List<String> untouched;

        Stage(Supplier<MarketDays> make) {
            this.make = make;
            this.untouched = Look.at(make.get());
        }
    }

    private static final Stage BARE = new Stage(Scene::bare);
    private static final Stage BUSY = new Stage(Scene::busy);
    private static final Stage CROWDED = new Stage(Scene::full);
    private static final Stage LONG_TAPE = new Stage(Scene::longTape);

    /** Numbers of TOWNS, GIVINGS, WEEKS .. of BUSY: good ones at both ends, bad ones near and far. */
    private static final int[] TOWNS = {0, 3, -1, 4, LOW, HIGH}, FEW_TOWNS = {1, -1, 4};
    private static final int[] GIVINGS = {0, 5, -1, 6, LOW, HIGH}, FEW_GIVINGS = {1, -1, 6};
    private static final int[] WEEKS = {0, 99, -1, 100, LOW, HIGH}, FEW_WEEKS = {1, -1, 100};
    private static final int[] SHEETS = {0, 1, 2, 3, -1, 4};

    public static void main(String[] args) {
        lands();
        wants();
        feasts();
        texts();
        rules();
        givings();
        givingsWhenFull();
        markets();
        judgings();
        finds();
        rooms();
        rounds();
        walks();
        tellings();
        sheets();
        copies();
        roads();
        taken();
        bare();
        check.end();
    }

    private static void refused(Stage stage, String call, int[] v, long due, ToLongFunction<MarketDays> tried) {
        if (due != TAKEN) {
            StringBuilder told = new StringBuilder(call);
            for (int i = 0; i < v.length; i++) {
                told.append(i == 0 ? "(" : ", ").append(v[i]);
            }
            MarketDays x = stage.make.get();
            check.due(told + ")", tried.applyAsLong(x), due);
            check.alike(told + ") changes nothing", Look.difference(Look.at(x), stage.untouched));
        }
    }

    /** All ways to take one number of each row. */
    private static List<int[]> every(int[]... rows) {
        List<int[]> ways = new ArrayList<>();
        ways.add(new int[0]);
        for (int[] row : rows) {
            List<int[]> longer = new ArrayList<>();
            for (int[] way : ways) {
                for (int v : row) {
                    int[] next = Arrays.copyOf(way, way.length + 1);
                    next[way.length] = v;
                    longer.add(next);
                }
            }
            ways = longer;
        }
        return ways;
    }

    private static boolean in(int v, int low, int high) {
        return low <= v && v <= high;
    }

    private static boolean isTown(int t) {
        return in(t, 0, 3);
    }

    private static boolean isGiving(int g) {
        return in(g, 0, 5);
    }

    private static boolean isWeek(int w) {
        return in(w, 0, 99);
    }

    private static void lands() {
        check.promise(2, "BAD; FULL");
        for (int[] v : every(new int[] {0, 99, -1, 100, LOW, HIGH})) {
            refused(BUSY, "town", v, in(v[0], 0, 99) ? TAKEN : BAD, x -> x.town(v[0]));
            refused(CROWDED, "town", v, in(v[0], 0, 99) ? FULL : BAD, x -> x.town(v[0]));
        }
        check.promise(3, "NONE: TOWNS; BAD: alike, hours");
        for (int[] v : every(TOWNS, TOWNS, new int[] {0, 50, -1, 51, LOW, HIGH})) {
            long due = !isTown(v[0]) || !isTown(v[1]) ? NONE : v[0] == v[1] || !in(v[2], 0, 50) ? BAD : TAKEN;
            refused(BUSY, "road", v, due, x -> x.road(v[0], v[1], v[2]));
        }
        check.promise(4, "NONE");
        for (int[] v : every(TOWNS, TOWNS)) {
            refused(BUSY, "hours", v, isTown(v[0]) && isTown(v[1]) ? TAKEN : NONE, x -> x.hours(v[0], v[1]));
        }
        check.promise(5, "BAD");
        for (int[] v : every(new int[] {1, 8, 0, -1, LOW, HIGH})) {
            refused(BUSY, "week", v, BAD, x -> x.week(v[0]));
        }
    }

    private static void wants() {
        check.promise(6, "-5: no such TOWN; -7: what, v");
        for (int[] v : every(TOWNS, new int[] {0, 1, 2, -1, 3, LOW, HIGH},
                new int[] {0, 1, 3, 4, 6, 7, 127, 128, -1, -2, LOW, HIGH})) {
            refused(BUSY, "want", v, dueOfWant(v[0], v[1], v[2]), x -> x.want(v[0], v[1], v[2]));
        }
        check.promise(7, "-5: no such TOWN; -7: what");
        for (int[] v : every(TOWNS, new int[] {0, 3, -1, 4, LOW, HIGH})) {
            long due = !isTown(v[0]) ? -5 : in(v[1], 0, 3) ? TAKEN : -7;
            refused(BUSY, "townTold", v, due, x -> x.townTold(v[0], v[1]));
        }
    }

    private static long dueOfWant(int t, int what, int v) {
        boolean isGood = what == 0 && in(v, 0, 127) || what == 1 && in(v, -1, 6)
            || what == 2 && (v == -1 || isTown(v) && v != t);
        return !isTown(t) ? -5 : isGood ? TAKEN : -7;
    }

    private static void feasts() {
        check.promise(8, "BAD; FULL");
        for (int[] v : every(WEEKS, new int[] {0, 6, -1, 7, LOW, HIGH})) {
            boolean isGood = isWeek(v[0]) && in(v[1], 0, 6);
            refused(BUSY, "feast", v, isGood ? TAKEN : BAD, x -> x.feast(v[0], v[1]));
            refused(CROWDED, "feast", v, isGood ? FULL : BAD, x -> x.feast(v[0], v[1]));
        }
    }

    private static void texts() {
        check.promise(9, "BAD: n not 1 .. 8; FULL");
        for (int[] v : every(new int[] {0, ';', -1}, new int[] {1, 3, 4, 5, 8, 0, 9, -1, LOW, HIGH})) {
            boolean isGood = in(v[1], 1, 8);
            refused(BUSY, "feed", v, isGood ? TAKEN : BAD, x -> x.feed(v[0], v[1]));
            refused(LONG_TAPE, "feed", v, !isGood ? BAD : v[1] <= 3 ? TAKEN : FULL, x -> x.feed(v[0], v[1]));
        }
        check.promise(10, "FULL (ahead of the FAULT; then THE TAPE stays)");
        refused(CROWDED, "text, a FAULT", new int[0], FULL, MarketDays::text);
        Stage ended = new Stage(() -> {
            MarketDays x = Scene.full();
            x.feed(';', 1);
            return x;
        });
        refused(ended, "text, no FAULT", new int[0], FULL, MarketDays::text);
        check.promise(10, "THE TAPE is empty by a FAULT, too; nothing else is changed");
        MarketDays x = Scene.busy();
        check.due("text(), too early", x.text(), -120);
        check.alike("text() with a FAULT", Look.difference(Look.at(x), Look.at(Scene.busyWithoutTape())));
    }

    private static void rules() {
        check.promise(11, "BAD");
        for (int[] v : every(new int[] {-1, 2, 5, 6, LOW, HIGH})) {
            refused(BUSY, "force", v, BAD, x -> x.force(v[0]));
            refused(CROWDED, "force", v, in(v[0], 0, 5) ? TAKEN : BAD, x -> x.force(v[0]));
        }
        check.promise(12, "NO: none such, alike");
        for (int[] v : every(TOWNS, TOWNS)) {
            boolean isGood = isTown(v[0]) && isTown(v[1]) && v[0] != v[1];
            refused(BUSY, "says", v, isGood ? TAKEN : NO, x -> x.says(v[0], v[1]));
        }
        check.promise(13, "NO: none such");
        for (int[] v : every(FEW_TOWNS, new int[] {0, 4, -1, 5}, new int[] {0, 99, -1, 100}, new int[] {0, 6, -1, 7})) {
            boolean isGood = isTown(v[0]) && in(v[1], 0, 4) && in(v[2], 0, 99) && in(v[3], 0, 6);
            refused(BUSY, "worthOf", v, isGood ? TAKEN : NO, x -> x.worthOf(v[0], v[1], v[2], v[3]));
        }
    }

    /** SHEET 0 is good, SHEET 1 has too many numbers, SHEET 2 one that is no DAY, SHEET 3 is missing. */
    private static Stage giver(int odd) {
        return new Stage(() -> {
            MarketDays x = Scene.busy();
            Make.row(x, 2, 2, 4, 3, 2, odd);
            return x;
        });
    }

    private static void givings() {
        check.promise(14, "BAD: KIND, SHEET; -11; BAD: its size is not as many as TOWNS, a number; FULL");
        for (int odd : new int[] {-1, 5, 7, 8, LOW, HIGH}) {
            Stage stage = giver(odd);
            for (int[] v : every(new int[] {0, 1, 2, 3, 4, 5, -1, 6}, SHEETS)) {
                long due = dueOfGiving(v[0], v[1], odd, 4);
                refused(stage, "giving, by " + odd, v, due, x -> x.giving(v[0], v[1]));
            }
        }
        Stage shorter = new Stage(() -> {
            MarketDays x = Scene.busy();
            Make.row(x, 0, 0, 8, 8, 8);
            return x;
        });
        refused(shorter, "giving, too few and bad", new int[] {0, 0}, BAD, x -> x.giving(0, 0));
    }

    private static long dueOfGiving(int kind, int s, int odd, int lastDay) {
        if (!in(kind, 0, 5) || !in(s, 0, 3)) {
            return BAD;
        }
        boolean isGood = s == 0 || s == 2 && in(odd, 0, kind == 1 || kind == 5 ? 7 : lastDay);
        return s == 3 ? -11 : isGood ? TAKEN : BAD;
    }

    private static void givingsWhenFull() {
        for (int[] v : every(new int[] {0, 1, 2, 3, 4, 5, -1, 6, LOW, HIGH}, SHEETS)) {
            long due = dueOfGiving(v[0], v[1], 8, 6);
            refused(CROWDED, "giving", v, due == TAKEN ? FULL : due, x -> x.giving(v[0], v[1]));
        }
    }

    private static void markets() {
        check.promise(15, "-5: none such");
        for (int[] v : every(GIVINGS, TOWNS, WEEKS)) {
            boolean isGood = isGiving(v[0]) && isTown(v[1]) && isWeek(v[2]);
            refused(BUSY, "marketOf", v, isGood ? TAKEN : -5, x -> x.marketOf(v[0], v[1], v[2]));
        }
        for (int[] v : every(GIVINGS, WEEKS)) {
            long due = isGiving(v[0]) && isWeek(v[1]) ? TAKEN : -5;
            check.promise(16, "-5: none such");
            refused(BUSY, "bar", v, due, x -> x.bar(v[0], v[1]));
            check.promise(17, "-5: none such");
            refused(BUSY, "lawful", v, due, x -> x.lawful(v[0], v[1]));
        }
    }

    private static void judgings() {
        check.promise(18, "NO: none such");
        for (int[] v : every(GIVINGS, WEEKS, new int[] {-1, 0, 3, -2, 4, LOW, HIGH})) {
            boolean isGood = isGiving(v[0]) && isWeek(v[1]) && (v[2] == -1 || isTown(v[2]));
            refused(BUSY, "judge", v, isGood ? TAKEN : NO, x -> x.judge(v[0], v[1], v[2]));
        }
        check.promise(19, "-5: no such GIVING; -7: what");
        for (int[] v : every(GIVINGS, new int[] {0, 2, -1, 3, LOW, HIGH})) {
            long due = !isGiving(v[0]) ? -5 : in(v[1], 0, 2) ? TAKEN : -7;
            refused(BUSY, "givingTold", v, due, x -> x.givingTold(v[0], v[1]));
        }
    }

    private static void finds() {
        check.promise(21, "NO: what, no such GIVING");
        Stage none = new Stage(() -> {
            MarketDays x = Scene.busy();
            x.want(0, 0, 0);
            return x;
        });
        for (int[] v : every(new int[] {1, 2, 3, 0, 4, -1, LOW, HIGH}, GIVINGS)) {
            boolean isGood = v[0] == 1 || v[0] == 2 || v[0] == 3 && isGiving(v[1]);
            refused(BUSY, "find", v, isGood ? TAKEN : NO, x -> x.find(v[0], v[1]));
            refused(none, "find, though there is none", v, isGood ? TAKEN : NO, x -> x.find(v[0], v[1]));
        }
        check.promise(22, "NONE: no such TOWN then");
        for (int[] v : every(new int[] {-1, 4, LOW, HIGH})) {
            refused(BUSY, "foundDay", v, NONE, x -> x.foundDay(v[0]));
        }
    }

    private static void rooms() {
        for (int[] v : every(FEW_GIVINGS, TOWNS, WEEKS)) {
            boolean isGood = isGiving(v[0]) && isTown(v[1]) && isWeek(v[2]);
            check.promise(25, "-5: none such");
            refused(BUSY, "room", v, isGood ? TAKEN : -5, x -> x.room(v[0], v[1], v[2]));
            check.promise(26, "NO: none such");
            refused(BUSY, "hurt", v, isGood ? TAKEN : NO, x -> x.hurt(v[0], v[1], v[2]));
        }
    }

    private static boolean isJourney(int[] v) {
        return isGiving(v[0]) && isWeek(v[1]) && isTown(v[2]) && in(v[3], 0, 50);
    }

    private static void rounds() {
        check.promise(27, "BAD: none such");
        for (int[] v : every(FEW_GIVINGS, FEW_WEEKS, FEW_TOWNS, new int[] {0, 50, -1, 51}, new int[] {0, 40, -1, 41})) {
            long due = isJourney(v) && in(v[4], 0, 40) ? TAKEN : BAD;
            refused(BUSY, "round", v, due, x -> x.round(v[0], v[1], v[2], v[3], v[4]));
        }
        check.promise(28, "NONE: no such DAY then");
        for (int[] v : every(new int[] {-1, 5, 6, LOW, HIGH})) {
            refused(BUSY, "roundTold", v, NONE, x -> x.roundTold(v[0]));
        }
    }

    /** SHEET 0 has too few numbers, SHEET 1 is good, SHEET 2 has one that is no TOWN, SHEET 3 is missing. */
    private static Stage walker(int place, int odd) {
        return new Stage(() -> {
            MarketDays x = Scene.busy();
            Make.row(x, 2, 2, 0, 3, 3, 3, 0);
            x.cell(2, place, odd);
            return x;
        });
    }

    private static void walks() {
        check.promise(29, "BAD: none such, SHEET; -11; BAD: its size, a number that is no TOWN");
        Stage[] stages = {walker(0, 4), walker(4, -1), walker(2, LOW), walker(2, HIGH)};
        for (Stage stage : stages) {
            for (int[] v : every(FEW_GIVINGS, FEW_WEEKS, FEW_TOWNS, new int[] {0, 50, -1, 51}, SHEETS)) {
                long due = !isJourney(v) || !in(v[4], 0, 3) ? BAD : v[4] == 3 ? -11 : v[4] == 1 ? TAKEN : BAD;
                refused(stage, "walk", v, due, x -> x.walk(v[0], v[1], v[2], v[3], v[4]));
            }
        }
        check.promise(29, "-20 less the first DAY on which it is too far; -100: he isn't at HOME in the end");
        refused(BUSY, "walk", new int[] {0, 0, 0, 2, 1}, -20, x -> x.walk(0, 0, 0, 2, 1));
        refused(BUSY, "walk", new int[] {0, 0, 1, 0, 1}, -21, x -> x.walk(0, 0, 1, 0, 1));
        refused(BUSY, "walk", new int[] {0, 0, 0, 50, 1}, -100, x -> x.walk(0, 0, 0, 50, 1));
        refused(BUSY, "walk, too far and not at HOME", new int[] {0, 0, 0, 3, 1}, -21, x -> x.walk(0, 0, 0, 3, 1));
    }

    private static void tellings() {
        check.promise(30, "BAD");
        for (int[] v : every(new int[] {-1, 7, LOW, HIGH})) {
            refused(BUSY, "count", v, BAD, x -> x.count(v[0]));
        }
        check.promise(32, "STATE: there is none");
        Stage noImage = new Stage(() -> {
            MarketDays x = Make.towns(1, 2);
            x.road(0, 1, 3);
            x.week(3);
            x.feast(0, 0);
            x.want(0, 1, 2);
            return x;
        });
        refused(noImage, "back", new int[0], STATE, MarketDays::back);
    }

    private static void sheets() {
        check.promise(33, "BAD: SHEET, sort, n above 40; -14");
        for (int[] v : every(SHEETS, new int[] {-1, 0, 2, -2, 3}, new int[] {0, 40, -1, 41, LOW, HIGH})) {
            boolean isRow = v[1] != -1;
            boolean isBad = !in(v[0], 0, 3) || !in(v[1], -1, 2) || isRow && v[2] > 40;
            refused(BUSY, "sheet", v, isBad ? BAD : isRow && v[2] < 0 ? -14 : TAKEN, x -> x.sheet(v[0], v[1], v[2]));
        }
        check.promise(34, "BAD: SHEET; -11; -12");
        int[] sizes = {4, 5, 7, 0};
        for (int[] v : every(SHEETS, new int[] {0, 3, 4, 5, 6, 7, 40, -1, LOW, HIGH}, new int[] {1, -1})) {
            long due = !in(v[0], 0, 3) ? BAD : v[0] == 3 ? -11 : in(v[1], 0, sizes[v[0]] - 1) ? TAKEN : -12;
            refused(BUSY, "cell", v, due, x -> x.cell(v[0], v[1], v[2]));
        }
    }

    private static void copies() {
        check.promise(35, "BAD: SHEETS; -11; -13: unlike sorts; -12 (n below 0, too)");
        int[] sizes = {4, 5, 7, 0};
        int[] places = {0, 1, 4, 8, -1, HIGH};
        for (int[] v : every(SHEETS, places, SHEETS, places, new int[] {0, 1, 4, 8, -1, LOW, HIGH})) {
            refused(BUSY, "copy", v, dueOfCopy(v, sizes), x -> x.copy(v[0], v[1], v[2], v[3], v[4]));
        }
    }

    /** SHEETS 0, 1, 2 are all of other sorts. */
    private static long dueOfCopy(int[] v, int[] sizes) {
        if (!in(v[0], 0, 3) || !in(v[2], 0, 3)) {
            return BAD;
        }
        if (v[0] == 3 || v[2] == 3) {
            return -11;
        }
        if (v[0] != v[2]) {
            return -13;
        }
        boolean isInside = v[1] >= 0 && v[3] >= 0 && v[4] >= 0
            && (long) v[1] + v[4] <= sizes[v[0]] && (long) v[3] + v[4] <= sizes[v[0]];
        return isInside ? TAKEN : -12;
    }

    private static void roads() {
        check.promise(36, "BAD: SHEET, sort, n; -11; -13; -12");
        for (int[] v : every(SHEETS, new int[] {0, 2, -1, 3}, new int[] {5, 7, -1, LOW, HIGH},
                new int[] {1, 13, -1, 14, LOW, HIGH})) {
            long due = !in(v[0], 0, 3) || !in(v[1], 0, 2) || !in(v[3], 0, 13) ? BAD
                : v[0] == 3 ? -11 : v[0] != v[1] ? -13 : -12;
            refused(BUSY, "roads", v, due, x -> x.roads(v[0], v[1], v[2], v[3]));
        }
        check.promise(36, "(others are left out)");
        Stage stage = new Stage(() -> {
            MarketDays x = Scene.busy();
            Make.row(x, 2, 2, 4, 0, 9, 0, 0, 9, 51);
            return x;
        });
        refused(stage, "roads, all left out", new int[] {2, 2, 0, 2}, 0, x -> x.roads(2, 2, 0, 2));
        refused(stage, "roads, left out and outside", new int[] {2, 2, 1, 3}, -12, x -> x.roads(2, 2, 0, 3));
        refused(BUSY, "roads, none", new int[] {2, 2, 0, 0}, 0, x -> x.roads(2, 2, 0, 0));
    }

    private static void taken() {
        check.promise(37, "BAD: kind; -12: i; -11: nothing lies there; -13");
        String[] kinds = {"0", "01", "02", "03", "034", "015"};
        for (int[] v : every(new int[] {0, 3, 4, 5, 6, 7, 8, 9, 10, 11, 12, 17, 18, -1, LOW, HIGH},
                new int[] {0, 1, 2, 3, 4, 5, 6, 7, -1, LOW, HIGH})) {
            boolean isThere = in(v[0], 0, 3) || in(v[0], 6, 11);
            boolean isOther = in(v[0], 0, 3) ? v[1] != 6 : isThere && kinds[v[0] - 6].indexOf('0' + v[1]) < 0;
            long due = !in(v[1], 0, 6) ? BAD : !in(v[0], 0, 17) ? -12 : !isThere ? -11 : isOther ? -13 : TAKEN;
            refused(BUSY, "taken", v, due, x -> x.taken(v[0], v[1]));
        }
    }

    /** Where there is nothing yet, no number is a good one. */
    private static void bare() {
        check.promise(1, "No TOWNS");
        int[] none = new int[0];
        refused(BARE, "road(0, 1, 1)", none, NONE, x -> x.road(0, 1, 1));
        refused(BARE, "road(0, 0, 51)", none, NONE, x -> x.road(0, 0, 51));
        refused(BARE, "hours(0, 0)", none, NONE, x -> x.hours(0, 0));
        refused(BARE, "want(0, 0, 0)", none, -5, x -> x.want(0, 0, 0));
        refused(BARE, "want(0, 3, 999)", none, -5, x -> x.want(0, 3, 999));
        refused(BARE, "townTold(0, 9)", none, -5, x -> x.townTold(0, 9));
        refused(BARE, "force(1)", none, BAD, x -> x.force(1));
        refused(BARE, "says(0, 1)", none, NO, x -> x.says(0, 1));
        refused(BARE, "worthOf(0, 0, 0, 0)", none, NO, x -> x.worthOf(0, 0, 0, 0));
        refused(BARE, "giving(0, 0)", none, -11, x -> x.giving(0, 0));
        refused(BARE, "giving(6, 0)", none, BAD, x -> x.giving(6, 0));
        refused(BARE, "marketOf(0, 0, 0)", none, -5, x -> x.marketOf(0, 0, 0));
        refused(BARE, "bar(0, 0)", none, -5, x -> x.bar(0, 0));
        refused(BARE, "lawful(0, 99)", none, -5, x -> x.lawful(0, 99));
        refused(BARE, "judge(0, 0, -1)", none, NO, x -> x.judge(0, 0, -1));
        refused(BARE, "givingTold(0, 9)", none, -5, x -> x.givingTold(0, 9));
        refused(BARE, "find(3, 0)", none, NO, x -> x.find(3, 0));
        refused(BARE, "find(0, 0)", none, NO, x -> x.find(0, 0));
        refused(BARE, "foundDay(0)", none, NONE, x -> x.foundDay(0));
        refused(BARE, "room(0, 0, 0)", none, -5, x -> x.room(0, 0, 0));
        refused(BARE, "hurt(0, 0, 0)", none, NO, x -> x.hurt(0, 0, 0));
        refused(BARE, "round(0, 0, 0, 0, 0)", none, BAD, x -> x.round(0, 0, 0, 0, 0));
        refused(BARE, "roundTold(0)", none, NONE, x -> x.roundTold(0));
        refused(BARE, "walk(0, 0, 0, 0, 0)", none, BAD, x -> x.walk(0, 0, 0, 0, 0));
        refused(BARE, "back()", none, STATE, MarketDays::back);
        refused(BARE, "cell(0, 0, 0)", none, -11, x -> x.cell(0, 0, 0));
        refused(BARE, "copy(0, 0, 0, 0, 0)", none, -11, x -> x.copy(0, 0, 0, 0, 0));
        refused(BARE, "roads(0, 0, 0, 0)", none, -11, x -> x.roads(0, 0, 0, 0));
        refused(BARE, "taken(0, 6)", none, -11, x -> x.taken(0, 6));
        refused(BARE, "taken(6, 0)", none, -11, x -> x.taken(6, 0));
    }
}
