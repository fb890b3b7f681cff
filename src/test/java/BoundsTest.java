import java.util.function.Supplier;

/** Of each number that a call takes: the least and the greatest that is taken, the first refused on both sides. */
public final class BoundsTest {
    private static final int NONE = MarketDays.NONE, BAD = MarketDays.BAD;
    private static final long NO = MarketDays.NO;
    private static final Check check = new Check("BoundsTest");

    private interface Call {
        long of(MarketDays x, int v);
    }

    public static void main(String[] args) {
        land();
        wants();
        feasts();
        rules();
        givings();
        numbersOfGivings();
        weeks();
        found();
        rounds();
        told();
        sheets();
        lowestBits();
        copies();
        roadsBySheets();
        taken();
        check.end();
    }

    /** Numbers far outside are bad too, as they are if only their lowest bits are good. */
    private static void bound(String call, int low, int high, long refusal, Call tried) {
        bound(call, low, high, refusal, refusal, Scene::busy, tried);
    }

    private static void bound(String call, int low, int high, long below, long above, Supplier<MarketDays> scene,
            Call tried) {
        for (int v : new int[] {low, high}) {
            long answer = tried.of(scene.get(), v);
            check.holds(call + " with " + v + " is taken, not answered " + answer, answer != below && answer != above);
        }
        for (int v : new int[] {low - 1, low - 256, low - 65536, Integer.MIN_VALUE}) {
            check.due(call + " with " + v, tried.of(scene.get(), v), below);
        }
        for (int v : new int[] {high + 1, high + 256, high + 65536, Integer.MAX_VALUE}) {
            check.due(call + " with " + v, tried.of(scene.get(), v), above);
        }
    }

    /** Pairs of a number and the answer that is due, each on an object of its own. */
    private static void each(String call, Supplier<MarketDays> scene, Call tried, long... numbersAndDue) {
        for (int i = 0; i < numbersAndDue.length; i += 2) {
            int v = (int) numbersAndDue[i];
            check.due(call + " with " + v, tried.of(scene.get(), v), numbersAndDue[i + 1]);
        }
    }

    private static void land() {
        check.promise(2, "SIZE (0 .. 99)");
        bound("town(v)", 0, 99, BAD, (x, v) -> x.town(v));
        check.promise(3, "NONE: TOWNS; BAD: hours (1 .. 50; 0: none)");
        each("road(v, 3, 1)", Scene::busy, (x, v) -> x.road(v, 3, 1), -1, NONE, 0, 6, 1, 0, 2, 5, 3, BAD, 4, NONE);
        each("road(3, v, 1)", Scene::busy, (x, v) -> x.road(3, v, 1), -1, NONE, 0, 6, 1, 0, 2, 5, 3, BAD, 4, NONE);
        each("road(v, 0, 1)", Scene::busy, (x, v) -> x.road(v, 0, 1), -1, NONE, 0, BAD, 1, 3, 2, 0, 3, 6, 4, NONE);
        each("road(0, v, 1)", Scene::busy, (x, v) -> x.road(0, v, 1), -1, NONE, 0, BAD, 1, 3, 2, 0, 3, 6, 4, NONE);
        bound("road(0, 1, v)", 0, 50, BAD, (x, v) -> x.road(0, 1, v));
        check.promise(4, "NONE");
        bound("hours(v, 1)", 0, 3, NONE, (x, v) -> x.hours(v, 1));
        bound("hours(1, v)", 0, 3, NONE, (x, v) -> x.hours(1, v));
        check.promise(5, "a WEEK of 2 .. 7");
        bound("week(v)", 2, 7, BAD, (x, v) -> x.week(v));
    }

    private static void wants() {
        check.promise(6, "-5: no such TOWN; -7: what, v");
        bound("want(v, 0, 1)", 0, 3, -5, (x, v) -> x.want(v, 0, 1));
        bound("want(1, v, 0)", 0, 2, -7, (x, v) -> x.want(1, v, 0));
        bound("want(1, 0, v)", 0, 127, -7, (x, v) -> x.want(1, 0, v));
        bound("want(1, 1, v)", -1, 6, -7, (x, v) -> x.want(1, 1, v));
        bound("want(1, 2, v)", -1, 3, -7, (x, v) -> x.want(1, 2, v));
        for (int t = 0; t < 4; t++) {
            for (int v = -1; v < 4; v++) {
                long due = v == t ? -7 : Scene.busy().townTold(t, 3);
                check.due("want(" + t + ", 2, " + v + "), not itself", Scene.busy().want(t, 2, v), due);
            }
        }
        check.promise(7, "-5: no such TOWN; -7: what");
        bound("townTold(v, 0)", 0, 3, -5, (x, v) -> x.townTold(v, 0));
        each("townTold(2, v)", Scene::busy, (x, v) -> x.townTold(2, v), -1, -7, 0, 14, 1, 127, 2, -1, 3, 0, 4, -7);
    }

    private static void feasts() {
        check.promise(8, "a DAY (0 .. 6) in a WEEK (0 .. 99)");
        bound("feast(v, 0)", 0, 99, BAD, (x, v) -> x.feast(v, 0));
        bound("feast(0, v)", 0, 6, BAD, (x, v) -> x.feast(0, v));
    }

    private static void rules() {
        check.promise(9, "BAD: n not 1 .. 8");
        bound("feed(-1, v)", 1, 8, BAD, (x, v) -> x.feed(-1L, v));
        check.promise(11, "TEXTS are numbered from 0 on");
        bound("force(v)", 0, 1, BAD, (x, v) -> x.force(v));
        bound("force(v) of six", 0, 5, BAD, BAD, Scene::full, (x, v) -> x.force(v));
        check.promise(12, "NO: none such, alike");
        each("says(v, 1)", Scene::busy, (x, v) -> x.says(v, 1), -1, NO, 0, 1, 1, NO, 2, 1, 3, 0, 4, NO);
        each("says(1, v)", Scene::busy, (x, v) -> x.says(1, v), -1, NO, 0, 1, 1, NO, 2, 1, 3, 0, 4, NO);
        check.promise(13, "a DAY of the WEEK, hours (0 .. 99), others (0 .. 6)");
        bound("worthOf(v, 0, 0, 0)", 0, 3, NO, (x, v) -> x.worthOf(v, 0, 0, 0));
        bound("worthOf(0, v, 0, 0)", 0, 4, NO, (x, v) -> x.worthOf(0, v, 0, 0));
        bound("worthOf(0, v, 0, 0) in a WEEK of 7", 0, 6, NO, NO, Scene::full, (x, v) -> x.worthOf(0, v, 0, 0));
        bound("worthOf(0, 0, v, 0)", 0, 99, NO, (x, v) -> x.worthOf(0, 0, v, 0));
        bound("worthOf(0, 0, 0, v)", 0, 6, NO, (x, v) -> x.worthOf(0, 0, 0, v));
    }

    private static void givings() {
        check.promise(14, "BAD: KIND, SHEET; -11");
        bound("giving(v, 0)", 0, 5, BAD, (x, v) -> x.giving(v, 0));
        bound("giving(0, v)", 0, 3, BAD, BAD, () -> {
            MarketDays x = Scene.busy();
            for (int s = 0; s < 4; s++) {
                Make.row(x, s, s % 3, 0, 0, 0, 0);
            }
            return x;
        }, (x, v) -> x.giving(0, v));
        check.promise(14, "BAD: its size is not as many as TOWNS");
        for (int n = 0; n <= 40; n++) {
            MarketDays x = Scene.busy();
            x.sheet(0, 2, n);
            check.due("giving(0, 0) by " + n, x.giving(0, 0), n == 4 ? 6 : BAD);
        }
        check.promise(19, "-5: no such GIVING; -7: what");
        bound("givingTold(v, 0)", 0, 5, -5, (x, v) -> x.givingTold(v, 0));
        bound("givingTold(0, v)", 0, 2, -7, (x, v) -> x.givingTold(0, v));
    }

    private static void numbersOfGivings() {
        for (int kind = 0; kind < 6; kind++) {
            for (int n = 2; n <= 7; n++) {
                int k = kind;
                int days = n;
                boolean isPart = kind == 1 || kind == 5;
                check.promise(14, isPart ? "PART, TOLD: numbers 0 .. 7 may be told" : "GIVING: DAYS of the WEEK");
                for (int place = 0; place < 4; place++) {
                    int p = place;
                    bound("giving(" + k + ", 0) by v in a WEEK of " + n, 0, isPart ? 7 : n - 1, BAD, (x, v) -> {
                        x.week(days);
                        Make.row(x, 0, 2, 0, 0, 0, 0);
                        x.cell(0, p, v);
                        return x.giving(k, 0);
                    });
                }
            }
        }
    }

    private static void weeks() {
        check.promise(15, "-5: none such");
        bound("marketOf(v, 0, 0)", 0, 5, -5, (x, v) -> x.marketOf(v, 0, 0));
        bound("marketOf(v, 0, 0) of twelve", 0, 11, -5, -5, Scene::full, (x, v) -> x.marketOf(v, 0, 0));
        bound("marketOf(0, v, 0)", 0, 3, -5, (x, v) -> x.marketOf(0, v, 0));
        bound("marketOf(0, 0, v)", 0, 99, -5, (x, v) -> x.marketOf(0, 0, v));
        check.promise(16, "-5: none such");
        bound("bar(v, 0)", 0, 5, -5, (x, v) -> x.bar(v, 0));
        bound("bar(0, v)", 0, 99, -5, (x, v) -> x.bar(0, v));
        check.promise(17, "-5: none such");
        bound("lawful(v, 0)", 0, 5, -5, (x, v) -> x.lawful(v, 0));
        bound("lawful(0, v)", 0, 99, -5, (x, v) -> x.lawful(0, v));
        check.promise(18, "a TOWN (-1: of all); NO: none such");
        bound("judge(v, 0, 0)", 0, 5, NO, (x, v) -> x.judge(v, 0, 0));
        bound("judge(0, v, 0)", 0, 99, NO, (x, v) -> x.judge(0, v, 0));
        bound("judge(0, 0, v)", -1, 3, NO, (x, v) -> x.judge(0, 0, v));
    }

    private static void found() {
        check.promise(21, "NO: what, no such GIVING");
        bound("find(v, 0)", 1, 3, NO, (x, v) -> x.find(v, 0));
        bound("find(3, v)", 0, 5, NO, (x, v) -> x.find(3, v));
        check.promise(22, "NONE: no such TOWN then");
        bound("foundDay(v)", 0, 3, NONE, (x, v) -> x.foundDay(v));
        check.promise(25, "-5: none such");
        bound("room(v, 0, 0)", 0, 5, -5, (x, v) -> x.room(v, 0, 0));
        bound("room(0, v, 0)", 0, 3, -5, (x, v) -> x.room(0, v, 0));
        bound("room(0, 0, v)", 0, 99, -5, (x, v) -> x.room(0, 0, v));
        check.promise(26, "NO: none such");
        bound("hurt(v, 0, 0)", 0, 5, NO, (x, v) -> x.hurt(v, 0, 0));
        bound("hurt(0, v, 0)", 0, 3, NO, (x, v) -> x.hurt(0, v, 0));
        bound("hurt(0, 0, v)", 0, 99, NO, (x, v) -> x.hurt(0, 0, v));
    }

    private static void rounds() {
        check.promise(27, "STRIDE 0 .. 50, PACK 0 .. 40; BAD: none such");
        bound("round(v, 0, 0, 9, 9)", 0, 5, BAD, (x, v) -> x.round(v, 0, 0, 9, 9));
        bound("round(0, v, 0, 9, 9)", 0, 99, BAD, (x, v) -> x.round(0, v, 0, 9, 9));
        bound("round(0, 0, v, 9, 9)", 0, 3, BAD, (x, v) -> x.round(0, 0, v, 9, 9));
        bound("round(0, 0, 0, v, 9)", 0, 50, BAD, (x, v) -> x.round(0, 0, 0, v, 9));
        bound("round(0, 0, 0, 9, v)", 0, 40, BAD, (x, v) -> x.round(0, 0, 0, 9, v));
        check.promise(28, "NONE: no such DAY then");
        bound("roundTold(v)", 0, 4, NONE, (x, v) -> x.roundTold(v));
        check.promise(29, "BAD: none such, SHEET");
        bound("walk(v, 0, 1, 9, 1)", 0, 5, BAD, (x, v) -> x.walk(v, 0, 1, 9, 1));
        bound("walk(0, v, 1, 9, 1)", 0, 99, BAD, (x, v) -> x.walk(0, v, 1, 9, 1));
        bound("walk(0, 0, v, 9, 1)", 0, 3, BAD, (x, v) -> x.walk(0, 0, v, 9, 1));
        bound("walk(0, 0, 1, v, 1)", 0, 50, BAD, (x, v) -> x.walk(0, 0, 1, v, 1));
        bound("walk(0, 0, 0, 9, v)", 0, 3, BAD, BAD, () -> {
            MarketDays x = Scene.busy();
            for (int s = 0; s < 4; s++) {
                x.sheet(s, s % 3, 5);
            }
            return x;
        }, (x, v) -> x.walk(0, 0, 0, 9, v));
        check.promise(29, "BAD: a number that is no TOWN");
        for (int place = 0; place < 5; place++) {
            int p = place;
            bound("walk by v on DAY " + p, 0, 3, BAD, (x, v) -> {
                Make.row(x, 2, 2, 1, 1, 1, 1, 1);
                x.cell(2, p, v);
                return x.walk(0, 0, 1, 50, 2);
            });
        }
        check.promise(29, "BAD: its size");
        for (int n = 0; n <= 40; n++) {
            MarketDays x = Scene.busy();
            x.sheet(0, 0, n);
            check.holds("walk by " + n, (x.walk(0, 0, 0, 9, 0) == BAD) == (n != 5));
        }
    }

    private static void told() {
        check.promise(30, "BAD");
        bound("count(v)", 0, 6, BAD, (x, v) -> x.count(v));
    }

    private static void sheets() {
        check.promise(33, "SHEETS 0 .. 3, sorts 0 .. 2 and -1, 40 at most; -14");
        bound("sheet(v, 0, 1)", 0, 3, BAD, (x, v) -> x.sheet(v, 0, 1));
        bound("sheet(v, -1, 1)", 0, 3, BAD, (x, v) -> x.sheet(v, -1, 1));
        bound("sheet(0, v, 1)", -1, 2, BAD, (x, v) -> x.sheet(0, v, 1));
        for (int sort = 0; sort < 3; sort++) {
            int its = sort;
            bound("sheet(0, " + sort + ", v)", 0, 40, -14, BAD, Scene::busy, (x, v) -> x.sheet(0, its, v));
        }
        for (int n : new int[] {Integer.MIN_VALUE, -1, 0, 40, 41, Integer.MAX_VALUE}) {
            check.due("sheet(0, -1, " + n + "), n does not matter", Scene.busy().sheet(0, -1, n), 1);
        }
        check.promise(34, "BAD: SHEET; -12");
        each("cell(v, 0, 1)", Scene::busy, (x, v) -> x.cell(v, 0, 1), -1, BAD, 0, 1, 1, 1, 2, 1, 3, -11, 4, BAD);
        for (int n = 1; n <= 40; n++) {
            int size = n;
            bound("cell(0, v, 1) of " + n, 0, n - 1, -12, (x, v) -> {
                x.sheet(0, 1, size);
                return x.cell(0, v, 1);
            });
        }
    }

    /** What a SHEET keeps is seen by giving(), which takes it for a DAY of the WEEK or not. */
    private static void lowestBits() {
        check.promise(34, "of bytes, shorts its lowest 8, 16 bits");
        for (int k = -600; k <= 600; k++) {
            for (int d : new int[] {-1, 0, 5, 6, 127, 128}) {
                int v = k * 128 + d;
                kept(0, v, (byte) v);
                kept(1, v, (short) v);
                kept(2, v, v);
            }
        }
        for (int v : new int[] {Integer.MIN_VALUE, Integer.MIN_VALUE + 3, Integer.MAX_VALUE, Integer.MAX_VALUE - 251}) {
            kept(0, v, (byte) v);
            kept(1, v, (short) v);
            kept(2, v, v);
        }
    }

    private static void kept(int sort, int v, int due) {
        MarketDays x = Make.towns(1);
        Make.row(x, 0, sort, v);
        int g = x.giving(0, 0);
        int market = g < 0 ? g : x.marketOf(g, 0, 0);
        check.due(v + " in a SHEET of sort " + sort, market, due >= 0 && due < 6 ? 1 << due : BAD);
    }

    private static void copies() {
        check.promise(35, "BAD: SHEETS; -11");
        each("copy(v, 0, 0, 0, 1)", Scene::busy, (x, v) -> x.copy(v, 0, 0, 0, 1),
            -1, BAD, 0, 1, 1, -13, 2, -13, 3, -11, 4, BAD);
        each("copy(2, 0, v, 0, 1)", Scene::busy, (x, v) -> x.copy(2, 0, v, 0, 1),
            -1, BAD, 0, -13, 1, -13, 2, 1, 3, -11, 4, BAD);
        check.promise(35, "-12 (n below 0, too)");
        Supplier<MarketDays> scene = () -> {
            MarketDays x = Scene.busy();
            Make.row(x, 2, 1, 0, 1, 2, 3, 4, 5, 6);
            return x;
        };
        bound("copy(2, v, 1, 0, 2)", 0, 5, -12, -12, scene, (x, v) -> x.copy(2, v, 1, 0, 2));
        bound("copy(2, 0, 1, v, 2)", 0, 3, -12, -12, scene, (x, v) -> x.copy(2, 0, 1, v, 2));
        bound("copy(2, 0, 1, 0, v)", 0, 5, -12, -12, scene, (x, v) -> x.copy(2, 0, 1, 0, v));
        bound("copy(1, 0, 2, 0, v)", 0, 5, -12, -12, scene, (x, v) -> x.copy(1, 0, 2, 0, v));
        bound("copy(2, v, 1, 5, 0)", 0, 7, -12, -12, scene, (x, v) -> x.copy(2, v, 1, 5, 0));
        bound("copy(2, 7, 1, v, 0)", 0, 5, -12, -12, scene, (x, v) -> x.copy(2, 7, 1, v, 0));
        bound("copy(2, 1, 2, 2, v)", 0, 5, -12, -12, scene, (x, v) -> x.copy(2, 1, 2, 2, v));
    }

    private static void roadsBySheets() {
        check.promise(36, "BAD: SHEET, sort, n (0 .. 13); -12");
        each("roads(v, 2, 0, 1)", Scene::busy, (x, v) -> x.roads(v, 2, 0, 1),
            -1, BAD, 0, -13, 1, -13, 2, 1, 3, -11, 4, BAD);
        each("roads(2, v, 0, 1)", Scene::busy, (x, v) -> x.roads(2, v, 0, 1), -1, BAD, 0, -13, 1, -13, 2, 1, 3, BAD);
        each("roads(0, v, 0, 1)", Scene::busy, (x, v) -> x.roads(0, v, 0, 1), -1, BAD, 0, 1, 1, -13, 2, -13, 3, BAD);
        bound("roads(2, 2, 0, v)", 0, 13, BAD, BAD, () -> {
            MarketDays x = Scene.busy();
            x.sheet(2, 2, 40);
            return x;
        }, (x, v) -> x.roads(2, 2, 0, v));
        bound("roads(2, 2, v, 1) of 7", 0, 4, -12, (x, v) -> x.roads(2, 2, v, 1));
        bound("roads(2, 2, v, 2) of 7", 0, 1, -12, (x, v) -> x.roads(2, 2, v, 2));
        bound("roads(2, 2, v, 13) of 40", 0, 1, -12, -12, () -> {
            MarketDays x = Scene.busy();
            x.sheet(2, 2, 40);
            return x;
        }, (x, v) -> x.roads(2, 2, v, 13));
    }

    private static void taken() {
        check.promise(37, "BAD: kind; -12: i");
        bound("taken(11, v)", 0, 6, BAD, (x, v) -> x.taken(11, v));
        bound("taken(v, 0)", 0, 17, -12, (x, v) -> x.taken(v, 0));
        bound("taken(v, 6)", 0, 17, -12, (x, v) -> x.taken(v, 6));
        each("taken(v, 0), full", Scene::full, (x, v) -> x.taken(v, 0),
            -1, -12, 0, -13, 5, -13, 6, 0, 17, 11, 18, -12);
        each("taken(v, 6), full", Scene::full, (x, v) -> x.taken(v, 6),
            -1, -12, 0, 0, 1, 99, 5, 5, 6, -13, 17, -13, 18, -12);
    }
}
