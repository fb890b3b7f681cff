/** Promises 1 to 8: towns, roads. */
public final class TownsTest {
    private static final Check check = new Check("TownsTest");

    public static void main(String[] args) {
        newObject();
        town();
        road();
        hours();
        week();
        want();
        townTold();
        feast();
        check.end();
    }

    private static void newObject() {
        check.promise(1, "a new object");
        MarketDays x = new MarketDays();
        int[] counts = {0, 6, 0, 0, 1, 0, 0};
        for (int what = 0; what < counts.length; what++) {
            check.due("count(" + what + ")", x.count(what), counts[what]);
        }
        check.due("hours(0, 0)", x.hours(0, 0), -1);
        check.due("back()", x.back(), -3);
        check.due("foundDay(0)", x.foundDay(0), -1);
        check.due("roundTold(0)", x.roundTold(0), -1);
        check.due("taken(0, 6)", x.taken(0, 6), -11);
        check.due("taken(6, 0)", x.taken(6, 0), -11);
        for (int s = 0; s < 4; s++) {
            check.due("cell(s, 0, 0)", x.cell(s, 0, 0), -11);
        }
        check.holds("two objects share nothing", Make.towns(1, 2).town(3) == 2 && x.town(4) == 0);
    }

    private static void town() {
        check.promise(2, "town");
        MarketDays x = new MarketDays();
        check.due("town(-1)", x.town(-1), -2);
        check.due("town(100)", x.town(100), -2);
        check.due("town(0)", x.town(0), 0);
        check.due("town(99)", x.town(99), 1);
        for (int t = 2; t < 6; t++) {
            check.due("town(7)", x.town(7), t);
        }
        check.due("town(7), a seventh", x.town(7), -4);
        check.due("town(100), BAD ahead of FULL", x.town(100), -2);
        check.due("count(0)", x.count(0), 6);
        check.due("townTold(0, 0)", x.townTold(0, 0), 0);
        check.due("townTold(1, 0)", x.townTold(1, 0), 99);
        check.due("townTold(5, 1), at first", x.townTold(5, 1), 127);
        check.due("townTold(5, 2), at first", x.townTold(5, 2), -1);
        check.due("townTold(5, 3), at first", x.townTold(5, 3), -1);
        check.due("hours(4, 5), at first", x.hours(4, 5), 99);
    }

    private static void road() {
        check.promise(3, "road");
        MarketDays x = Make.towns(1, 2, 3);
        check.due("road(0, 1, 50)", x.road(0, 1, 50), 0);
        check.due("road(1, 0, 7)", x.road(1, 0, 7), 50);
        check.due("road(0, 1, 0)", x.road(0, 1, 0), 7);
        check.due("hours(0, 1)", x.hours(0, 1), 99);
        check.due("road(0, 1, 1)", x.road(0, 1, 1), 0);
        check.due("road(0, 3, 1)", x.road(0, 3, 1), -1);
        check.due("road(-1, 0, 1)", x.road(-1, 0, 1), -1);
        check.due("road(3, 3, 51), NONE ahead of BAD", x.road(3, 3, 51), -1);
        check.due("road(2, 2, 1)", x.road(2, 2, 1), -2);
        check.due("road(0, 1, -1)", x.road(0, 1, -1), -2);
        check.due("road(0, 1, 51)", x.road(0, 1, 51), -2);
        check.due("road(0, 1, 1), refusals changed nothing", x.road(0, 1, 1), 1);
    }

    private static void hours() {
        check.promise(4, "hours");
        MarketDays x = Make.towns(1, 2, 3, 4, 5);
        x.road(0, 1, 50);
        check.due("hours(0, 1)", x.hours(0, 1), 50);
        x.road(1, 2, 48);
        check.due("hours(0, 2), a sum", x.hours(0, 2), 98);
        check.due("hours(2, 0), back", x.hours(2, 0), 98);
        x.road(2, 3, 1);
        check.due("hours(0, 3), a sum of 99", x.hours(0, 3), 99);
        x.road(2, 3, 2);
        check.due("hours(0, 3), a sum of 100", x.hours(0, 3), 99);
        check.due("hours(1, 3)", x.hours(1, 3), 50);
        check.due("hours(0, 4), no road", x.hours(0, 4), 99);
        x.road(0, 4, 3);
        x.road(4, 3, 4);
        check.due("hours(0, 3), another way", x.hours(0, 3), 7);
        check.due("hours(0, 2), a way round", x.hours(0, 2), 9);
        check.due("hours(0, 1), the road itself", x.hours(0, 1), 50);
        check.due("hours(4, 4)", x.hours(4, 4), 0);
        check.due("hours(5, 0)", x.hours(5, 0), -1);
        check.due("hours(0, 5)", x.hours(0, 5), -1);
        check.due("hours(-1, 0)", x.hours(-1, 0), -1);
    }

    private static void week() {
        check.promise(5, "week");
        MarketDays x = new MarketDays();
        check.due("week(2)", x.week(2), 6);
        check.due("week(1)", x.week(1), -2);
        check.due("week(8)", x.week(8), -2);
        check.due("week(7)", x.week(7), 2);
        check.due("count(1)", x.count(1), 7);
    }

    private static void want() {
        check.promise(6, "want");
        MarketDays x = Make.towns(1, 2);
        check.due("want(0, 0, 0)", x.want(0, 0, 0), 127);
        check.due("want(0, 0, 127)", x.want(0, 0, 127), 0);
        check.due("want(0, 0, -1)", x.want(0, 0, -1), -7);
        check.due("want(0, 0, 128)", x.want(0, 0, 128), -7);
        check.due("want(0, 1, 6)", x.want(0, 1, 6), -1);
        check.due("want(0, 1, -1)", x.want(0, 1, -1), 6);
        check.due("want(0, 1, -2)", x.want(0, 1, -2), -7);
        check.due("want(0, 1, 7)", x.want(0, 1, 7), -7);
        check.due("want(0, 2, 1)", x.want(0, 2, 1), -1);
        check.due("want(0, 2, 0), itself", x.want(0, 2, 0), -7);
        check.due("want(0, 2, 2), no TOWN", x.want(0, 2, 2), -7);
        check.due("want(0, 2, -2)", x.want(0, 2, -2), -7);
        check.due("want(0, 2, -1)", x.want(0, 2, -1), 1);
        check.due("want(0, 3, 0)", x.want(0, 3, 0), -7);
        check.due("want(0, -1, 0)", x.want(0, -1, 0), -7);
        check.due("want(2, 9, 999), -5 ahead of -7", x.want(2, 9, 999), -5);
        check.due("want(-1, 0, 0)", x.want(-1, 0, 0), -5);
        check.due("townTold(0, 1)", x.townTold(0, 1), 127);
        check.due("townTold(1, 1), another TOWN", x.townTold(1, 1), 127);
    }

    private static void townTold() {
        check.promise(7, "townTold");
        MarketDays x = Make.towns(11, 22);
        x.want(1, 0, 5);
        x.want(1, 1, 4);
        x.want(1, 2, 0);
        int[] told = {22, 5, 4, 0};
        for (int what = 0; what < told.length; what++) {
            check.due("townTold(1, " + what + ")", x.townTold(1, what), told[what]);
        }
        check.due("townTold(0, 0)", x.townTold(0, 0), 11);
        check.due("townTold(1, 4)", x.townTold(1, 4), -7);
        check.due("townTold(1, -1)", x.townTold(1, -1), -7);
        check.due("townTold(2, 4), -5 ahead of -7", x.townTold(2, 4), -5);
        check.due("townTold(-1, 0)", x.townTold(-1, 0), -5);
    }

    private static void feast() {
        check.promise(8, "feast");
        MarketDays x = Make.towns(1);
        check.due("feast(-1, 0)", x.feast(-1, 0), -2);
        check.due("feast(100, 0)", x.feast(100, 0), -2);
        check.due("feast(0, -1)", x.feast(0, -1), -2);
        check.due("feast(0, 7)", x.feast(0, 7), -2);
        check.due("feast(0, 6), a DAY that the WEEK has not", x.feast(0, 6), 1);
        check.due("feast(99, 0)", x.feast(99, 0), 2);
        for (int n = 3; n <= 10; n++) {
            check.due("feast(99, 0), again", x.feast(99, 0), n);
        }
        check.due("feast(0, 0), an eleventh", x.feast(0, 0), -4);
        check.due("feast(100, 0), BAD ahead of FULL", x.feast(100, 0), -2);
        check.due("count(2)", x.count(2), 10);
        int g = Make.giving(x, 0, 0);
        check.due("marketOf(g, 0, 99), moved once", x.marketOf(g, 0, 99), 2);
        check.due("marketOf(g, 0, 0), the refused one moves none", x.marketOf(g, 0, 0), 1);
    }
}
