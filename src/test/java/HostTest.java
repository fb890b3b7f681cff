/** Promises 33 to 37: the host; and the constants. */
public final class HostTest {
    private static final int BIG = Integer.MAX_VALUE;
    private static final int SMALL = Integer.MIN_VALUE;
    private static final Check check = new Check("HostTest");

    public static void main(String[] args) {
        constants();
        sheet();
        cell();
        copy();
        roads();
        taken();
        anyNumbers();
        check.end();
    }

    private static void constants() {
        check.promise(1, "the constants");
        check.due("NONE", MarketDays.NONE, -1);
        check.due("BAD", MarketDays.BAD, -2);
        check.due("STATE", MarketDays.STATE, -3);
        check.due("FULL", MarketDays.FULL, -4);
        check.due("NO", MarketDays.NO, -4611686018427387904L);
    }

    private static void sheet() {
        check.promise(33, "sheet");
        MarketDays x = Make.towns(1, 2);
        check.due("sheet(4, 0, 1)", x.sheet(4, 0, 1), -2);
        check.due("sheet(-1, 0, 1)", x.sheet(-1, 0, 1), -2);
        check.due("sheet(0, 3, 1)", x.sheet(0, 3, 1), -2);
        check.due("sheet(0, -2, 1)", x.sheet(0, -2, 1), -2);
        check.due("sheet(0, 0, 41)", x.sheet(0, 0, 41), -2);
        check.due("sheet(0, 3, -1), BAD ahead of -14", x.sheet(0, 3, -1), -2);
        check.due("sheet(0, 0, -1)", x.sheet(0, 0, -1), -14);
        check.due("cell(0, 0, 0), still missing", x.cell(0, 0, 0), -11);
        check.due("sheet(3, 2, 40)", x.sheet(3, 2, 40), 1);
        check.due("cell(3, 39, 7)", x.cell(3, 39, 7), 1);
        check.due("sheet(3, 2, 41), changes nothing", x.sheet(3, 2, 41), -2);
        check.due("cell(3, 39, 7)", x.cell(3, 39, 7), 1);
        Make.row(x, 0, 2, 5, 5);
        check.due("sheet(0, 2, 2)", x.sheet(0, 2, 2), 1);
        check.due("giving(0, 0)", x.giving(0, 0), 0);
        check.due("marketOf(0, 1, 0), all 0", x.marketOf(0, 1, 0), 1);
        check.due("sheet(0, 1, 0)", x.sheet(0, 1, 0), 1);
        check.due("cell(0, 0, 1), of size 0", x.cell(0, 0, 1), -12);
        check.due("sheet(0, -1, 99)", x.sheet(0, -1, 99), 1);
        check.due("cell(0, 0, 1), missing", x.cell(0, 0, 1), -11);
        check.due("sheet(0, -1, -1)", x.sheet(0, -1, -1), 1);
        check.due("sheet(4, -1, 0)", x.sheet(4, -1, 0), -2);
    }

    /** The DAY told by a number that is stored in a SHEET of the sort; -2 if it is none. */
    private static int stored(int sort, int v) {
        MarketDays x = Make.towns(1);
        Make.row(x, 0, sort, v);
        int g = x.giving(0, 0);
        return g < 0 ? g : x.marketOf(g, 0, 0);
    }

    private static void cell() {
        check.promise(34, "cell");
        MarketDays x = new MarketDays();
        check.due("cell(4, 0, 0)", x.cell(4, 0, 0), -2);
        check.due("cell(-1, 0, 0)", x.cell(-1, 0, 0), -2);
        check.due("cell(0, 99, 0), -11 ahead of -12", x.cell(0, 99, 0), -11);
        x.sheet(0, 0, 3);
        check.due("cell(0, 2, 1)", x.cell(0, 2, 1), 1);
        check.due("cell(0, 3, 1)", x.cell(0, 3, 1), -12);
        check.due("cell(0, -1, 1)", x.cell(0, -1, 1), -12);
        check.due("a byte 256 + 2", stored(0, 256 + 2), 4);
        check.due("a byte 65536 + 3", stored(0, 65536 + 3), 8);
        check.due("a byte 255", stored(0, 255), -2);
        check.due("a short 256 + 2", stored(1, 256 + 2), -2);
        check.due("a short 65536 + 3", stored(1, 65536 + 3), 8);
        check.due("a short -65536 + 3", stored(1, -65536 + 3), 8);
        check.due("a short 65535", stored(1, 65535), -2);
        check.due("an int 65536 + 3", stored(2, 65536 + 3), -2);
        check.due("an int 3", stored(2, 3), 8);
    }

    private static void row(MarketDays x, int s, int... due) {
        for (int t = 0; t < due.length; t++) {
            int g = x.count(3) - 1;
            check.due("number " + t + " of SHEET " + s, x.marketOf(g, t, 0), 1 << due[t]);
        }
    }

    private static void copy() {
        check.promise(35, "copy");
        MarketDays x = Make.towns(1, 2, 3, 4, 5);
        Make.row(x, 0, 1, 1, 2, 3, 4, 5);
        check.due("copy, a missing one", x.copy(0, 0, 1, 0, 1), -11);
        check.due("copy, from a missing one", x.copy(1, 0, 0, 0, 1), -11);
        check.due("copy, BAD ahead of -11", x.copy(1, 0, 4, 0, 1), -2);
        check.due("copy(-1, ..)", x.copy(-1, 0, 0, 0, 1), -2);
        Make.row(x, 1, 2, 0, 0, 0, 0, 0);
        check.due("copy, unlike sorts ahead of -12", x.copy(0, 9, 1, 0, 1), -13);
        Make.row(x, 1, 1, 0, 0, 0, 0, 0);
        check.due("copy", x.copy(0, 1, 1, 2, 3), 3);
        x.giving(0, 1);
        row(x, 1, 0, 0, 2, 3, 4);
        check.due("copy to its own, on", x.copy(0, 0, 0, 1, 4), 4);
        x.giving(0, 0);
        row(x, 0, 1, 1, 2, 3, 4);
        check.due("copy to its own, back", x.copy(0, 1, 0, 0, 4), 4);
        x.giving(0, 0);
        row(x, 0, 1, 2, 3, 4, 4);
        check.due("copy of none at the end", x.copy(0, 5, 1, 5, 0), 0);
        check.due("copy of none behind the end", x.copy(0, 6, 1, 0, 0), -12);
        check.due("copy of none behind the other's end", x.copy(0, 0, 1, 6, 0), -12);
        check.due("copy of -1", x.copy(0, 1, 1, 1, -1), -12);
        check.due("copy from -1", x.copy(0, -1, 1, 0, 1), -12);
        check.due("copy to -1", x.copy(0, 0, 1, -1, 1), -12);
        check.due("copy of too many", x.copy(0, 3, 1, 0, 3), -12);
        check.due("copy to too few", x.copy(0, 0, 1, 3, 3), -12);
        check.due("copy, far outside", x.copy(0, BIG, 1, 0, BIG), -12);
        check.due("copy, far outside", x.copy(0, 0, 1, BIG, 5), -12);
        check.due("copy, far outside", x.copy(0, 1, 1, 1, BIG), -12);
        x.giving(0, 0);
        row(x, 0, 1, 2, 3, 4, 4);
    }

    private static void roads() {
        check.promise(36, "roads");
        MarketDays x = Make.towns(1, 2, 3);
        check.due("roads, a missing one", x.roads(0, 0, 0, 0), -11);
        check.due("roads, SHEET 4", x.roads(4, 0, 0, 1), -2);
        check.due("roads, SHEET -1", x.roads(-1, 0, 0, 1), -2);
        check.due("roads, sort 3", x.roads(0, 3, 0, 1), -2);
        check.due("roads, sort -1", x.roads(0, -1, 0, 1), -2);
        check.due("roads, n 14", x.roads(0, 0, 0, 14), -2);
        check.due("roads, n -1", x.roads(0, 0, 0, -1), -2);
        Make.row(x, 0, 2, 9, 0, 1, 5, 1, 2, 6, 0, 2);
        check.due("roads, another sort ahead of -12", x.roads(0, 1, 99, 1), -13);
        check.due("roads, from a place on", x.roads(0, 2, 1, 2), 2);
        check.due("hours(0, 2)", x.hours(0, 2), 11);
        x.road(0, 1, 0);
        x.road(1, 2, 0);
        check.due("roads, what stood ahead was", x.roads(0, 2, 1, 3), -12);
        check.due("hours(0, 1)", x.hours(0, 1), 5);
        check.due("hours(1, 2)", x.hours(1, 2), 6);
        check.due("roads, at -1", x.roads(0, 2, -1, 1), -12);
        check.due("roads, at the end", x.roads(0, 2, 9, 1), -12);
        check.due("roads, a part of one", x.roads(0, 2, 7, 1), -12);
        check.due("roads, none", x.roads(0, 2, 0, 0), 0);
        check.due("roads, far outside", x.roads(0, 2, BIG, 13), -12);
        check.due("roads, far outside", x.roads(0, 2, SMALL, 13), -12);
        Make.row(x, 1, 0, 0, 1, 51, 0, 0, 1, 0, 3, 1, 0, 1, 0, 1, 2, -1, 0, 2, 50);
        check.due("roads, others are left out", x.roads(1, 0, 0, 6), 2);
        check.due("hours(0, 1), 0 hours: none", x.hours(0, 1), 56);
        check.due("hours(0, 2)", x.hours(0, 2), 50);
        x.sheet(2, 1, 40);
        check.due("roads, 13", x.roads(2, 1, 1, 13), 0);
        check.due("roads, 13", x.roads(2, 1, 2, 13), -12);
    }

    private static void taken() {
        check.promise(37, "taken");
        MarketDays x = Make.towns(50, 60);
        for (int kind = 0; kind < 6; kind++) {
            Make.giving(x, kind, 0, 0);
        }
        String[] kinds = {"0", "01", "02", "03", "034", "015"};
        for (int g = 0; g < 6; g++) {
            for (int kind = 0; kind <= 6; kind++) {
                boolean is = kinds[g].indexOf('0' + kind) >= 0;
                check.due("taken(" + (6 + g) + ", " + kind + ")", x.taken(6 + g, kind), is ? g : -13);
            }
        }
        check.due("taken(1, 6)", x.taken(1, 6), 60);
        for (int kind = 0; kind < 6; kind++) {
            check.due("taken(1, " + kind + ")", x.taken(1, kind), -13);
        }
        check.due("taken(2, 6)", x.taken(2, 6), -11);
        check.due("taken(5, 6)", x.taken(5, 6), -11);
        check.due("taken(2, 0), -11 ahead of -13", x.taken(2, 0), -11);
        check.due("taken(12, 0)", x.taken(12, 0), -11);
        check.due("taken(17, 6)", x.taken(17, 6), -11);
        check.due("taken(18, 0)", x.taken(18, 0), -12);
        check.due("taken(-1, 0)", x.taken(-1, 0), -12);
        check.due("taken(18, 7), BAD ahead of -12", x.taken(18, 7), -2);
        check.due("taken(0, -1)", x.taken(0, -1), -2);
        check.due("taken(5, 6), the last TOWN", Make.towns(1, 2, 3, 4, 5, 9).taken(5, 6), 9);
        MarketDays full = Make.towns(1);
        for (int g = 0; g < 12; g++) {
            Make.giving(full, 0, 0);
        }
        check.due("taken(17, 0), the last GIVING", full.taken(17, 0), 11);
    }

    /** No call may throw, whatever it is called with. */
    private static void anyNumbers() {
        check.promise(0, "any numbers");
        int[] odd = {SMALL, SMALL + 1, -5, -1, 0, 1, 2, 5, 6, 7, 31, 32, 33, 40, 64, 99, 100, BIG - 1, BIG};
        MarketDays x = Make.towns(50, 60, 70);
        Make.giving(x, 0, 0, 1, 2);
        Make.giving(x, 2, 3, 4, 5);
        long sum = 0;
        for (int a : odd) {
            for (int b : odd) {
                for (int c : odd) {
                    sum += someCalls(x, a, b, c);
                }
            }
        }
        check.holds("it came to an end", sum != 0);
    }

    private static long someCalls(MarketDays x, int a, int b, int c) {
        long sum = x.road(a, b, c) + x.hours(a, b) + x.townTold(a, b) + x.says(a, b) + x.worthOf(a, b, c, b);
        sum += x.marketOf(a, b, c) + x.bar(a, b) + x.judge(a, b, c) + x.givingTold(a, b) + x.foundDay(a);
        sum += x.room(a, b, c) + x.hurt(a, b, c) + x.round(a, b, c, b, a) + x.round(a, 0, b, c, 40);
        sum += x.walk(a, b, c, b, a) + x.walk(0, a, b, c, 0) + x.roundTold(a) + x.count(a) + x.cell(a, b, c);
        sum += x.copy(a, b, c, b, a) + x.copy(0, a, 0, b, c) + x.roads(a, b, c, a) + x.roads(0, 2, a, b);
        sum += x.taken(a, b) + x.feed(a, b) + x.force(a) + x.giving(a, b) + x.want(a, b, c) + x.week(a);
        sum += x.sheet(a, b, c) + x.feast(a, b) + x.town(a) + x.lawful(a, b % 7);
        return sum;
    }
}
