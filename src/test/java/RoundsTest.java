/** Promises 27 to 32: rounds. */
public final class RoundsTest {
    private static final Check check = new Check("RoundsTest");

    public static void main(String[] args) {
        round();
        roundRefusals();
        roundTold();
        walk();
        walkRefusals();
        count();
        image();
        back();
        backToSix();
        check.end();
    }

    private static void stops(MarketDays x, int... due) {
        for (int d = 0; d < due.length; d++) {
            check.due("roundTold(" + d + ")", x.roundTold(d), due[d]);
        }
        check.due("roundTold(" + due.length + ")", x.roundTold(due.length), -1);
    }

    /** Four TOWNS on one road, 2 hours from each to the next one; a WEEK of 4 DAYS. */
    private static MarketDays road() {
        MarketDays x = Make.towns(3, 5, 7, 11);
        x.road(0, 1, 2);
        x.road(1, 2, 2);
        x.road(2, 3, 2);
        x.week(4);
        return x;
    }

    private static void round() {
        check.promise(27, "round");
        MarketDays x = road();
        int g = Make.giving(x, 0, 3, 0, 1, 2);
        check.due("round, STRIDE 2", x.round(g, 0, 0, 2, 40), 15);
        stops(x, 1, 2, 1, 0);
        check.due("round, STRIDE 1: stays", x.round(g, 0, 0, 1, 40), 3);
        stops(x, 0, 0, 0, 0);
        check.due("round, STRIDE 0", x.round(g, 0, 2, 0, 40), 7);
        stops(x, 2, 2, 2, 2);
        check.due("round, STRIDE 5", x.round(g, 0, 0, 5, 40), 15);
        stops(x, 1, 2, 0, 0);
        check.due("round, STRIDE 6", x.round(g, 0, 0, 6, 40), 26);
        stops(x, 1, 2, 3, 0);
        check.due("round, a PACK of 15", x.round(g, 0, 0, 6, 15), 15);
        stops(x, 0, 2, 3, 0);
        check.due("round, a PACK of 12", x.round(g, 0, 0, 6, 12), 12);
        stops(x, 0, 0, 3, 0);
        check.due("round, a PACK of 3", x.round(g, 0, 0, 6, 3), 3);
        stops(x, 0, 0, 0, 0);
        check.due("round, no PACK", x.round(g, 0, 3, 6, 0), 0);
        stops(x, 0, 0, 0, 3);
        x.feast(1, 0);
        check.due("round in a WEEK with a FEAST", x.round(g, 1, 0, 2, 40), 10);
        stops(x, 1, 2, 1, 0);
        int part = Make.giving(x, 1, 7, 7, 7, 7);
        check.due("round, no markets", x.round(part, 0, 1, 2, 40), 0);
        stops(x, 0, 0, 0, 1);
        int twice = Make.giving(x, 2, 0, 1, 1, 0);
        check.due("round, on two DAYS", x.round(twice, 0, 3, 2, 40), 29);
        stops(x, 3, 2, 3, 3);
        check.due("round, on two DAYS", x.round(twice, 0, 2, 2, 40), 36);
        stops(x, 3, 2, 3, 2);
        x.want(0, 0, 0);
        check.due("round, lawful or not", x.round(g, 0, 0, 1, 40), 3);
    }

    private static void roundRefusals() {
        MarketDays x = road();
        int g = Make.giving(x, 0, 3, 0, 1, 2);
        x.round(g, 0, 0, 2, 40);
        check.due("round(1, ..)", x.round(1, 0, 0, 2, 40), -2);
        check.due("round(-1, ..)", x.round(-1, 0, 0, 2, 40), -2);
        check.due("round, WEEK 100", x.round(g, 100, 0, 2, 40), -2);
        check.due("round, WEEK -1", x.round(g, -1, 0, 2, 40), -2);
        check.due("round, HOME 4", x.round(g, 0, 4, 2, 40), -2);
        check.due("round, HOME -1", x.round(g, 0, -1, 2, 40), -2);
        check.due("round, STRIDE 51", x.round(g, 0, 0, 51, 40), -2);
        check.due("round, STRIDE -1", x.round(g, 0, 0, -1, 40), -2);
        check.due("round, PACK 41", x.round(g, 0, 0, 2, 41), -2);
        check.due("round, PACK -1", x.round(g, 0, 0, 2, -1), -2);
        stops(x, 1, 2, 1, 0);
        check.due("round, STRIDE 50", x.round(g, 0, 0, 50, 40), 26);
    }

    private static void roundTold() {
        check.promise(28, "roundTold");
        MarketDays x = road();
        check.due("roundTold(0), none was", x.roundTold(0), -1);
        int g = Make.giving(x, 0, 3, 0, 1, 2);
        Make.row(x, 0, 2, 0, 0, 0, 0);
        x.walk(g, 0, 0, 2, 0);
        check.due("roundTold(0), a walk is not found", x.roundTold(0), -1);
        x.round(g, 0, 0, 2, 40);
        check.due("roundTold(-1)", x.roundTold(-1), -1);
        x.week(2);
        x.walk(g, 0, 0, 2, 0);
        stops(x, 1, 2, 1, 0);
        x.round(g, 0, 1, 2, 40);
        stops(x, 1, 1);
        x.week(7);
        stops(x, 1, 1);
    }

    private static int walk(MarketDays x, int home, int stride, int... stops) {
        Make.row(x, 0, 1, stops);
        return x.walk(0, 0, home, stride, 0);
    }

    private static void walk() {
        check.promise(29, "walk");
        MarketDays x = road();
        int g = Make.giving(x, 0, 3, 0, 1, 2);
        check.due("walk", walk(x, 0, 2, 1, 2, 1, 0), 15);
        check.due("walk, none that DAY", walk(x, 0, 2, 0, 1, 1, 0), 3);
        check.due("walk, too far at once", walk(x, 0, 2, 2, 2, 1, 0), -20);
        check.due("walk, too far at last", walk(x, 0, 2, 1, 2, 2, 0), -23);
        check.due("walk, the first too far", walk(x, 0, 2, 1, 3, 0, 3), -21);
        check.due("walk, not at HOME", walk(x, 0, 2, 1, 2, 2, 1), -100);
        check.due("walk, too far ahead of not at HOME", walk(x, 0, 2, 1, 1, 1, 3), -23);
        check.due("walk, as far as can be", walk(x, 0, 6, 1, 2, 3, 0), 26);
        check.due("walk, one less", walk(x, 0, 5, 1, 2, 3, 0), -23);
        x.feast(1, 0);
        check.due("walk in a WEEK with a FEAST", x.walk(g, 1, 0, 6, 0), 21);
        MarketDays rich = Make.towns(30, 30);
        rich.road(0, 1, 1);
        rich.week(2);
        Make.giving(rich, 0, 0, 1);
        check.due("walk, a PACK of 40", walk(rich, 1, 1, 0, 1), 40);
    }

    private static void walkRefusals() {
        MarketDays x = road();
        Make.giving(x, 0, 3, 0, 1, 2);
        check.due("walk, no SHEET", x.walk(0, 0, 0, 2, 0), -11);
        check.due("walk, SHEET 4", x.walk(0, 0, 0, 2, 4), -2);
        check.due("walk, SHEET -1", x.walk(0, 0, 0, 2, -1), -2);
        check.due("walk, no GIVING ahead of no SHEET", x.walk(1, 0, 0, 2, 0), -2);
        check.due("walk, WEEK 100", x.walk(0, 100, 0, 2, 0), -2);
        check.due("walk, HOME 4", x.walk(0, 0, 4, 2, 0), -2);
        check.due("walk, STRIDE 51", x.walk(0, 0, 0, 51, 0), -2);
        check.due("walk, STRIDE -1", x.walk(0, 0, 0, -1, 0), -2);
        check.due("walk, too few", walk(x, 0, 2, 0, 0, 0), -2);
        check.due("walk, too many", walk(x, 0, 2, 0, 0, 0, 0, 0), -2);
        check.due("walk, no TOWN at last", walk(x, 0, 2, 3, 0, 0, 4), -2);
        check.due("walk, no TOWN at first", walk(x, 0, 2, 4, 0, 0, 0), -2);
        check.due("walk, no TOWN", walk(x, 0, 2, 0, -1, 0, 0), -2);
        check.due("walk, STRIDE 50", walk(x, 0, 50, 0, 0, 0, 0), 3);
    }

    private static void count() {
        check.promise(30, "count");
        MarketDays x = Make.towns(1, 2, 3);
        x.week(4);
        x.feast(0, 0);
        x.feast(0, 0);
        Make.giving(x, 0, 0, 0, 0);
        Make.rule(x, "near 1;worth 1;");
        x.feed(0, 5);
        int[] due = {3, 4, 2, 1, 2, 1, 5};
        for (int what = 0; what < due.length; what++) {
            check.due("count(" + what + ")", x.count(what), due[what]);
        }
        check.due("count(7)", x.count(7), -2);
        check.due("count(-1)", x.count(-1), -2);
    }

    private static void image() {
        check.promise(31, "image");
        MarketDays x = new MarketDays();
        check.due("image()", x.image(), 0);
        x.town(1);
        x.town(2);
        check.due("image()", x.image(), 2);
        x.town(3);
        x.week(3);
        check.due("back(), the last IMAGE", x.back(), 3);
        check.due("count(1)", x.count(1), 6);
        x.week(2);
        x.image();
        x.week(5);
        x.back();
        check.due("count(1), the last IMAGE", x.count(1), 2);
    }

    private static void back() {
        check.promise(32, "back");
        MarketDays x = Make.towns(1, 2, 3);
        check.due("back(), there is none", x.back(), -3);
        x.road(0, 1, 5);
        x.want(0, 0, 7);
        x.want(0, 1, 3);
        x.want(1, 2, 0);
        x.feast(2, 1);
        x.image();
        Make.rule(x, "near 1;worth 1;");
        x.town(4);
        x.town(5);
        x.road(0, 1, 0);
        x.road(1, 2, 4);
        x.road(2, 3, 6);
        x.road(3, 4, 7);
        x.want(0, 0, 1);
        x.want(0, 1, -1);
        x.want(1, 2, 3);
        x.want(3, 0, 10);
        x.want(3, 1, 2);
        x.want(3, 2, 0);
        x.feast(2, 1);
        x.feast(3, 3);
        x.week(7);
        int g = Make.giving(x, 0, 1, 1, 1, 1, 1);
        x.find(1, 0);
        x.round(g, 0, 0, 0, 0);
        x.feed(0, 3);
        afterBack(x, g);
        x.week(2);
        x.road(0, 1, 9);
        check.due("back(), again", x.back(), 5);
        check.due("count(1)", x.count(1), 6);
        check.due("hours(0, 1)", x.hours(0, 1), 5);
    }

    private static void backToSix() {
        MarketDays x = Make.towns(1, 2, 3, 4, 5, 6);
        x.road(4, 5, 8);
        x.want(5, 1, 2);
        x.image();
        x.road(4, 5, 9);
        x.road(0, 5, 9);
        x.want(5, 1, 3);
        check.due("back()", x.back(), 6);
        check.due("hours(4, 5), as it was", x.hours(4, 5), 8);
        check.due("hours(0, 5), as it was", x.hours(0, 5), 99);
        check.due("townTold(5, 2), as it was", x.townTold(5, 2), 2);
    }

    private static void afterBack(MarketDays x, int g) {
        check.due("back()", x.back(), 5);
        int[] counts = {5, 6, 1, 1, 2, 0, 3};
        for (int what = 0; what < counts.length; what++) {
            check.due("count(" + what + "), after back()", x.count(what), counts[what]);
        }
        int[][] told = {{1, 7, 3, -1}, {2, 127, -1, 0}, {3, 127, -1, -1}, {4, 10, 2, 0}, {5, 127, -1, -1}};
        for (int t = 0; t < told.length; t++) {
            for (int what = 0; what < 4; what++) {
                check.due("townTold(" + t + ", " + what + "), after back()", x.townTold(t, what), told[t][what]);
            }
        }
        check.due("hours(0, 1), as it was", x.hours(0, 1), 5);
        check.due("hours(1, 2), as it was", x.hours(1, 2), 99);
        check.due("hours(2, 3), gone", x.hours(2, 3), 99);
        check.due("hours(3, 4), stays", x.hours(3, 4), 7);
        check.due("road(3, 2, 0), gone", x.road(3, 2, 0), 0);
        check.due("marketOf(g, 0, 2), FEASTS", x.marketOf(g, 0, 2), 4);
        check.due("marketOf(g, 0, 3), FEASTS", x.marketOf(g, 0, 3), 2);
        check.due("foundDay(4), stays", x.foundDay(4), 4);
        check.due("roundTold(6), stays", x.roundTold(6), 0);
        check.due("feast(0, 0)", x.feast(0, 0), 2);
        x.back();
        check.due("count(2), the IMAGE is not changed", x.count(2), 1);
    }
}
