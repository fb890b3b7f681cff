/** Promises 20 to 26: what is found. */
public final class FoundTest {
    private static final long NO = MarketDays.NO;
    private static final Check check = new Check("FoundTest");

    public static void main(String[] args) {
        can();
        findFirst();
        findBest();
        findNearest();
        refusals();
        foundDay();
        least();
        knot();
        room();
        hurt();
        check.end();
    }

    private static void days(MarketDays x, int... due) {
        for (int t = 0; t < due.length; t++) {
            check.due("foundDay(" + t + ")", x.foundDay(t), due[t]);
        }
        check.due("foundDay(" + due.length + ")", x.foundDay(due.length), -1);
    }

    private static void can() {
        check.promise(20, "can");
        check.due("can() of no TOWNS", new MarketDays().can(), 1);
        MarketDays x = Make.towns(1, 2, 3);
        check.due("can()", x.can(), 216);
        x.road(0, 1, 1);
        check.due("can(), two NEAR", x.can(), 180);
        x.want(2, 0, 64 + 7);
        check.due("can(), three DAYS that it may have", x.can(), 90);
        x.want(2, 2, 0);
        check.due("can(), BEHIND", x.can(), 15);
        x.feast(0, 1);
        check.due("can(), no FEASTS", x.can(), 15);
        x.want(2, 2, -1);
        x.want(0, 2, 1);
        check.due("can(), the lesser one BEHIND", x.can(), 18);
        x.want(1, 2, 0);
        check.due("can(), each BEHIND the other", x.can(), 0);
        x.week(2);
        check.due("can(), each BEHIND the other in a WEEK of 2", x.can(), 4);
        MarketDays six = Make.towns(1, 2, 3, 4, 5, 6);
        check.due("can()", six.can(), 46656);
        six.week(7);
        check.due("can(), 117649", six.can(), 100000);
        six.want(5, 0, 63);
        check.due("can(), 100842", six.can(), 100000);
        six.want(4, 0, 63);
        check.due("can(), 86436", six.can(), 86436);
    }

    private static void findFirst() {
        check.promise(21, "find, the first");
        MarketDays x = Make.towns(1, 2, 3);
        x.road(0, 1, 1);
        x.road(1, 2, 3);
        x.want(0, 0, 6);
        check.due("find(1, 0)", x.find(1, 0), 1);
        days(x, 1, 0, 1);
        x.want(0, 2, 2);
        check.due("find(1, -7), g does not matter", x.find(1, -7), 1);
        days(x, 1, 2, 0);
        x.want(1, 0, 0);
        check.due("find(1, 0), none", x.find(1, 0), NO + 1);
        days(x);
        check.due("find(1, 0) of no TOWNS", new MarketDays().find(1, 0), 1);
    }

    private static void findBest() {
        check.promise(21, "find, the best");
        check.due("find(2, 0) of no TOWNS", new MarketDays().find(2, 0), 0);
        MarketDays x = Make.towns(1, 2, 3);
        check.due("find(2, 99), g does not matter", x.find(2, 99), 30);
        days(x, 0, 1, 2);
        x.want(0, 1, 4);
        x.want(2, 1, 4);
        check.due("find(2, 0), two want the same", x.find(2, 0), 36);
        days(x, 4, 0, 4);
        x.road(0, 2, 1);
        check.due("find(2, 0), and are NEAR", x.find(2, 0), 35);
        days(x, 0, 1, 4);
        x.feast(0, 4);
        check.due("find(2, 0), no FEASTS", x.find(2, 0), 35);
        Make.rule(x, "near 0;worth -hours;");
        x.road(0, 1, 5);
        x.week(3);
        check.due("find(2, 0), hours", x.find(2, 0), -12);
        days(x, 0, 1, 2);
        Make.rule(x, "near 0;worth -5*size-day;");
        check.due("find(2, 0), below 0", x.find(2, 0), -30);
        days(x, 0, 0, 0);
        x.want(0, 0, 64);
        check.due("find(2, 0), none", x.find(2, 0), NO + 1);
        days(x);
        MarketDays two = Make.towns(1, 3);
        two.road(0, 1, 5);
        two.week(3);
        Make.rule(two, "near 0;worth -hours*size;");
        check.due("find(2, 0), hours of the DAY ahead", two.find(2, 0), -99 - 15);
        days(two, 0, 1);
        findBestOfMany();
    }

    private static void findBestOfMany() {
        MarketDays x = Make.towns(1, 2, 3, 4, 5, 6);
        x.week(7);
        Make.rule(x, "near 0;worth size*10-day-other*30;");
        check.due("find(2, 0), six TOWNS in a WEEK of 7", x.find(2, 0), 210 - 15);
        days(x, 0, 1, 2, 3, 4, 5);
        Make.rule(x, "near 0;worth size*day;");
        check.due("find(2, 0), all on the last DAY", x.find(2, 0), 6 * 21);
        days(x, 6, 6, 6, 6, 6, 6);
        x.want(0, 0, 1);
        x.want(1, 0, 1);
        x.want(2, 0, 1);
        x.road(5, 0, 40);
        x.road(5, 1, 20);
        x.road(5, 2, 30);
        Make.rule(x, "near 0;worth (size=6)*(hours+other*30);");
        x.want(5, 0, 2);
        check.due("find(2, 0), the nearest of three, others with it", x.find(2, 0), 20 + 60);
        days(x, 0, 0, 0, 1, 1, 1);
    }

    private static void findNearest() {
        check.promise(21, "find, the nearest");
        MarketDays x = Make.towns(1, 2, 3);
        x.road(0, 1, 1);
        int g = Make.giving(x, 2, 3, 3, 5);
        check.due("find(3, g)", x.find(3, g), 1);
        days(x, 0, 3, 5);
        g = Make.giving(x, 5, 7, 4, 6);
        check.due("find(3, g), numbers that are no DAYS", x.find(3, g), 2);
        days(x, 0, 4, 0);
        g = Make.giving(x, 3, 2, 4, 1);
        check.due("find(3, g), all", x.find(3, g), 0);
        days(x, 2, 4, 1);
        x.town(4);
        check.due("find(3, g), a TOWN that came since", x.find(3, g), 1);
        days(x, 2, 4, 1, 0);
        x.want(2, 0, 0);
        check.due("find(3, g), none", x.find(3, g), NO + 1);
        days(x);
    }

    private static void refusals() {
        check.promise(21, "find, refusals");
        MarketDays x = Make.towns(1, 2);
        x.want(1, 0, 8);
        x.find(1, 0);
        check.due("find(0, 0)", x.find(0, 0), NO);
        check.due("find(4, 0)", x.find(4, 0), NO);
        check.due("find(-1, 0)", x.find(-1, 0), NO);
        check.due("find(3, 0)", x.find(3, 0), NO);
        check.due("find(3, -1)", x.find(3, -1), NO);
        days(x, 0, 3);
        x.want(1, 0, 0);
        check.due("find(3, 0), no such GIVING ahead of none", x.find(3, 0), NO);
        days(x, 0, 3);
    }

    private static void foundDay() {
        check.promise(22, "foundDay");
        MarketDays x = Make.towns(1, 2);
        check.due("foundDay(0), nothing was FOUND", x.foundDay(0), -1);
        x.want(0, 0, 4);
        x.find(1, 0);
        days(x, 2, 0);
        check.due("foundDay(-1)", x.foundDay(-1), -1);
        x.town(3);
        x.week(2);
        x.image();
        x.back();
        days(x, 2, 0);
        check.due("can(), none", x.can(), 0);
        days(x, 2, 0);
        x.find(2, 0);
        days(x);
        x.week(3);
        x.find(2, 0);
        days(x, 2, 0, 1);
    }

    private static void least() {
        check.promise(23, "least");
        check.due("least() of no TOWNS", new MarketDays().least(), 2);
        MarketDays x = Make.towns(1, 2, 3);
        check.due("least()", x.least(), 2);
        x.road(0, 1, 1);
        x.road(1, 2, 1);
        check.due("least(), three NEAR", x.least(), 3);
        x.want(0, 0, 64);
        check.due("least(), DAY 6", x.least(), 7);
        check.due("count(1)", x.count(1), 6);
        x.want(0, 0, 0);
        check.due("least(), not with 7", x.least(), -1);
        x.want(0, 0, 127);
        x.week(7);
        Make.rule(x, "near not week=5;worth 0;");
        x.town(4);
        x.town(5);
        x.town(6);
        check.due("least(), near of that WEEK", x.least(), 5);
        Make.rule(x, "near week<3 or 4<week;worth 0;");
        check.due("least(), near of that WEEK", x.least(), 3);
    }

    private static void knot() {
        check.promise(24, "knot");
        check.due("knot() of no TOWNS", new MarketDays().knot(), 0);
        MarketDays x = Make.towns(1, 2, 3, 4, 5);
        check.due("knot()", x.knot(), 0);
        x.week(2);
        x.road(0, 1, 3);
        x.road(1, 2, 3);
        check.due("knot(), a chain", x.knot(), 0);
        x.road(0, 2, 3);
        check.due("knot(), three", x.knot(), 7);
        x.want(3, 2, 4);
        x.want(4, 2, 3);
        check.due("knot(), two in a WEEK of 2", x.knot(), 7);
        x.week(3);
        check.due("knot(), each BEHIND the other", x.knot(), 24);
        x.want(2, 0, 8);
        check.due("knot(), one that may have none", x.knot(), 4);
        x.want(0, 0, 0);
        check.due("knot(), the least as bits", x.knot(), 1);
        x.want(0, 0, 127);
        x.want(2, 0, 127);
        x.want(3, 2, -1);
        x.want(4, 0, 3);
        x.want(3, 0, 3);
        check.due("knot(), no more", x.knot(), 0);
        x.want(3, 0, 2);
        check.due("knot(), fewest ahead of least bits", x.knot(), 24);
        MarketDays three = Make.towns(1, 2, 3);
        three.week(2);
        Make.rule(three, "near 1;worth 1;");
        check.due("knot(), all TOWNS", three.knot(), 7);
    }

    private static void room() {
        check.promise(25, "room");
        MarketDays x = Make.towns(1, 2, 3);
        x.road(0, 1, 1);
        int g = Make.giving(x, 0, 0, 0, 3);
        check.due("room, all but the near one's", x.room(g, 0, 0), 62);
        check.due("room, not NEAR", x.room(g, 2, 0), 63);
        x.want(2, 0, 64 + 6);
        check.due("room, DAYS that it may have", x.room(g, 2, 0), 6);
        x.want(0, 2, 2);
        check.due("room, BEHIND", x.room(g, 0, 0), 16);
        check.due("room, ahead of one", x.room(g, 2, 0), 0);
        x.want(2, 0, 127);
        check.due("room, ahead of one", x.room(g, 2, 0), 32);
        check.due("room, others BAR", x.room(g, 1, 0), 62);
        x.feast(4, 0);
        check.due("room in a WEEK with a FEAST", x.room(g, 1, 4), 61);
        int twice = Make.giving(x, 2, 0, 1, 3);
        check.due("room, alone, the others twice", x.room(twice, 0, 0), 0);
        check.due("room, alone, the others twice", x.room(twice, 1, 0), 63 - 1 - 8);
        check.due("marketOf, as it was", x.marketOf(twice, 1, 0), 2 + 16);
        check.due("room(2, 0, 0)", x.room(2, 0, 0), -5);
        check.due("room(-1, 0, 0)", x.room(-1, 0, 0), -5);
        check.due("room(0, 3, 0)", x.room(0, 3, 0), -5);
        check.due("room(0, -1, 0)", x.room(0, -1, 0), -5);
        check.due("room(0, 0, 100)", x.room(0, 0, 100), -5);
        check.due("room(0, 0, -1)", x.room(0, 0, -1), -5);
        nearOfTheLesserOne();
    }

    private static void nearOfTheLesserOne() {
        MarketDays x = Make.towns(5, 9);
        int g = Make.giving(x, 0, 1, 1);
        Make.rule(x, "near size<other;worth 0;");
        check.due("room of the lesser one", x.room(g, 0, 0), 61);
        check.due("room of the greater one", x.room(g, 1, 0), 61);
        check.due("can()", x.can(), 30);
        Make.rule(x, "near other<size;worth 0;");
        check.due("room of the lesser one", x.room(g, 0, 0), 63);
        check.due("room of the greater one", x.room(g, 1, 0), 63);
        check.due("can()", x.can(), 36);
    }

    private static void hurt() {
        check.promise(26, "hurt");
        MarketDays x = Make.towns(1, 2, 3, 4);
        int g = Make.giving(x, 0, 0, 0, 0, 1);
        check.due("hurt, two others lose 2 each", x.hurt(g, 0, 0), 4);
        check.due("hurt, none that DAY", x.hurt(g, 3, 0), 0);
        Make.rule(x, "near 0;worth hours;");
        x.road(0, 3, 9);
        x.road(1, 3, 20);
        check.due("hurt, nearest the DAY ahead", x.hurt(g, 0, 0), 11);
        check.due("hurt, not the nearest", x.hurt(g, 1, 0), 0);
        Make.rule(x, "near 0;worth other*3;");
        check.due("hurt, less", x.hurt(g, 0, 0), -6);
        int part = Make.giving(x, 1, 0, 0, 7, 0);
        check.due("hurt, it has none", x.hurt(part, 2, 0), 0);
        check.due("hurt, its own WORTH is left out", x.hurt(part, 0, 0), -6);
        int twice = Make.giving(x, 2, 0, 0, 1, 1);
        check.due("hurt, half, cut", x.hurt(twice, 0, 0), -3);
        x.feast(7, 0);
        check.due("hurt in a WEEK with a FEAST", x.hurt(g, 3, 7), -9);
        check.due("hurt(3, 0, 0)", x.hurt(3, 0, 0), NO);
        check.due("hurt(-1, 0, 0)", x.hurt(-1, 0, 0), NO);
        check.due("hurt(0, 4, 0)", x.hurt(0, 4, 0), NO);
        check.due("hurt(0, -1, 0)", x.hurt(0, -1, 0), NO);
        check.due("hurt(0, 0, 100)", x.hurt(0, 0, 100), NO);
        check.due("hurt(0, 0, -1)", x.hurt(0, 0, -1), NO);
    }
}
