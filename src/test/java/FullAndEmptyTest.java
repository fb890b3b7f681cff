/** The empty and the full: nothing there yet, none left, as many as there can be, and what comes behind the last. */
public final class FullAndEmptyTest {
    private static final long NO = MarketDays.NO;
    private static final Check check = new Check("FullAndEmptyTest");

    public static void main(String[] args) {
        newObject();
        noTowns();
        oneTown();
        sixTowns();
        noDays();
        noDayAllowed();
        allOnOneDay();
        tenFeasts();
        twelveGivings();
        sheetsOfNone();
        sheetsOfForty();
        hoursOf99();
        manyWays();
        packs();
        strides();
        walkEnds();
        lawfulEnds();
        knots();
        fewestOfKnots();
        imageOfNone();
        imageOfSix();
        imageAgain();
        imageOfTheRule();
        calls();
        check.end();
    }

    private static void newObject() {
        check.promise(1, "No TOWNS; a WEEK of 6 DAYS; what there is at first");
        int[] counts = {0, 6, 0, 0, 1, 0, 0};
        for (int what = 0; what < counts.length; what++) {
            check.due("count(" + what + ")", new MarketDays().count(what), counts[what]);
        }
        check.due("town(1), numbered from 0", new MarketDays().town(1), 0);
        check.due("feast(0, 0), how many there are", new MarketDays().feast(0, 0), 1);
        check.due("week(7), how many it had", new MarketDays().week(7), 6);
        check.due("text(), numbered behind TEXT 0", Make.text(new MarketDays(), "near 1;worth 1;"), 1);
        check.due("force(0), THE RULE at first", new MarketDays().force(0), 0);
        for (int s = 0; s < 4; s++) {
            check.due("cell(" + s + ", 0, 0), missing", new MarketDays().cell(s, 0, 0), -11);
            check.due("sheet(" + s + ", 0, 1)", new MarketDays().sheet(s, 0, 1), 1);
        }
        for (int i = 0; i < 18; i++) {
            check.due("taken(" + i + ", 6), nothing there", new MarketDays().taken(i, 6), -11);
        }
        MarketDays x = Make.towns(7);
        int[] told = {7, 127, -1, -1};
        for (int what = 0; what < told.length; what++) {
            check.due("townTold(0, " + what + "), at first", x.townTold(0, what), told[what]);
        }
    }

    private static void noTowns() {
        check.promise(20, "no TOWNS: one way, that gives nothing");
        MarketDays x = new MarketDays();
        check.due("can()", x.can(), 1);
        check.due("find(1, 0)", x.find(1, 0), 1);
        check.due("foundDay(0)", x.foundDay(0), -1);
        check.due("find(2, 0)", x.find(2, 0), 0);
        check.due("foundDay(0)", x.foundDay(0), -1);
        check.due("least()", x.least(), 2);
        check.due("knot()", x.knot(), 0);
        check.promise(14, "as many as TOWNS: none");
        for (int kind = 0; kind < 6; kind++) {
            x.sheet(0, 1, 0);
            check.due("giving(" + kind + ", 0) of none", x.giving(kind, 0), kind);
            check.due("givingTold(.., 1)", x.givingTold(kind, 1), 0);
            check.due("bar(.., 99)", x.bar(kind, 99), -1);
            check.due("lawful(.., 0)", x.lawful(kind, 0), 1);
            check.due("lawful(.., 99)", x.lawful(kind, 99), 100);
            check.due("judge of all", x.judge(kind, 0, -1), 0);
            check.due("judge of TOWN 0", x.judge(kind, 0, 0), NO);
            check.due("marketOf TOWN 0", x.marketOf(kind, 0, 0), -5);
            check.due("find(3, ..)", x.find(3, kind), 0);
            check.due("round", x.round(kind, 0, 0, 0, 0), -2);
        }
        x.sheet(1, 0, 1);
        check.due("giving by one number too many", x.giving(0, 1), -2);
        x.sheet(1, 0, 6);
        check.due("walk", x.walk(0, 0, 0, 0, 1), -2);
    }

    private static void oneTown() {
        check.promise(18, "TOWNS that came since: none");
        MarketDays x = new MarketDays();
        x.sheet(0, 0, 0);
        for (int kind = 0; kind < 6; kind++) {
            x.giving(kind, 0);
        }
        x.town(40);
        int[] worth = {0, -1, 0, -2, -2, 0};
        for (int g = 0; g < 6; g++) {
            check.due("marketOf(" + g + ", 0, 5)", x.marketOf(g, 0, 5), 0);
            check.due("judge(" + g + ", 5, 0)", x.judge(g, 5, 0), worth[g]);
            check.due("judge(" + g + ", 5, -1)", x.judge(g, 5, -1), worth[g]);
            check.due("givingTold(" + g + ", 1)", x.givingTold(g, 1), 0);
            check.due("room(" + g + ", 0, 5)", x.room(g, 0, 5), 63);
            check.due("hurt(" + g + ", 0, 5)", x.hurt(g, 0, 5), 0);
            check.due("find(3, " + g + "), it has none of it", x.find(3, g), 1);
            check.due("foundDay(0)", x.foundDay(0), 0);
            check.due("round, nothing to sell", x.round(g, 5, 0, 50, 40), 0);
        }
    }

    private static void sixTowns() {
        check.promise(2, "6 at most");
        MarketDays x = new MarketDays();
        for (int t = 0; t < 6; t++) {
            check.due("town(" + t + ")", x.town(t), t);
            check.due("count(0)", x.count(0), t + 1);
        }
        check.due("town(0), a seventh", x.town(0), -4);
        check.due("town(99), a seventh", x.town(99), -4);
        check.due("town(100), BAD ahead of FULL", x.town(100), -2);
        check.due("town(-1), BAD ahead of FULL", x.town(-1), -2);
        check.due("count(0)", x.count(0), 6);
        check.due("road(4, 5, 50)", x.road(4, 5, 50), 0);
        check.due("road(5, 4, 1), the same one", x.road(5, 4, 1), 50);
        check.due("road(5, 6, 1)", x.road(5, 6, 1), -1);
        check.due("hours(5, 4)", x.hours(5, 4), 1);
        check.due("want(5, 2, 4)", x.want(5, 2, 4), -1);
        check.due("want(4, 2, 6)", x.want(4, 2, 6), -7);
        int g = Make.giving(x, 0, 0, 1, 2, 3, 4, 4);
        check.due("bar, the last two", x.bar(g, 0), 45);
        x.want(5, 2, -1);
        check.due("bar, the last two, NEAR", x.bar(g, 0), 45);
        x.road(4, 5, 4);
        x.want(5, 0, 127 - 16);
        check.due("bar, the last one itself", x.bar(g, 0), 55);
        x.want(0, 0, 126);
        check.due("bar, the first one itself: the least such number", x.bar(g, 0), 0);
        check.due("can()", x.can(), 5 * 6 * 6 * 6 * 6 * 5);
        check.due("find(1, 0)", x.find(1, 0), 1);
        check.due("foundDay(0)", x.foundDay(0), 1);
        check.due("foundDay(5), the last", x.foundDay(5), 0);
        check.due("foundDay(6)", x.foundDay(6), -1);
        check.due("judge of the last", x.judge(g, 0, 5), 8);
        check.due("taken(5, 6)", x.taken(5, 6), 5);
        x.want(5, 0, 64);
        check.due("knot(), the last one's bit", x.knot(), 32);
        check.due("least(), DAY 6", x.least(), 7);
    }

    private static void noDays() {
        check.promise(15, "PART: 7 is no DAY of any WEEK");
        MarketDays x = Make.towns(3, 4);
        x.road(0, 1, 1);
        x.want(1, 2, 0);
        x.want(0, 0, 0);
        int part = Make.giving(x, 1, 7, 7);
        int told = Make.giving(x, 5, 7, 7);
        for (int n = 2; n <= 7; n++) {
            x.week(n);
            for (int w = 0; w < 100; w += 33) {
                check.due("marketOf", x.marketOf(part, 0, w), 0);
                check.due("bar, none has a DAY", x.bar(part, w), -1);
                check.due("judge of PART: -1", x.judge(part, w, -1), -2);
                check.due("judge of TOLD: 1 more", x.judge(told, w, -1), 0);
                check.due("hurt", x.hurt(part, 0, w), 0);
                check.due("room, may have none", x.room(part, 0, w), 0);
                check.due("room, any DAY", x.room(part, 1, w), (1 << n) - 1);
            }
        }
    }

    private static void noDayAllowed() {
        check.promise(21, "NO and 1: there is none (then nothing is found)");
        MarketDays x = Make.towns(3, 4);
        int g = Make.giving(x, 0, 0, 1);
        for (int aims = 1; aims <= 3; aims++) {
            x.want(1, 0, 127);
            check.holds("find(" + aims + ", g)", x.find(aims, g) >= 0);
            check.holds("foundDay(0)", x.foundDay(0) >= 0);
            x.want(1, 0, 0);
            check.due("find(" + aims + ", g)", x.find(aims, g), NO + 1);
            check.due("foundDay(0)", x.foundDay(0), -1);
            check.due("foundDay(1)", x.foundDay(1), -1);
        }
        check.due("find(3, 1), no such GIVING ahead of none", x.find(3, 1), NO);
        check.due("can()", x.can(), 0);
        check.due("least()", x.least(), -1);
        check.due("knot()", x.knot(), 2);
        x.want(1, 0, 64);
        check.due("can(), a DAY that the WEEK hasn't", x.can(), 0);
        check.due("find(1, 0), a DAY that the WEEK hasn't", x.find(1, 0), NO + 1);
        check.due("knot(), a DAY that the WEEK hasn't", x.knot(), 2);
        x.week(7);
        check.due("can(), as the WEEK has it", x.can(), 7);
        check.due("knot()", x.knot(), 0);
        check.due("week of least() does not stay", x.count(1), 7);
    }

    private static void allOnOneDay() {
        check.promise(18, "other: how many other TOWNS have a market that DAY: none to all others");
        for (int towns = 1; towns <= 6; towns++) {
            MarketDays x = new MarketDays();
            int[] same = new int[towns];
            for (int t = 0; t < towns; t++) {
                x.town(t);
                same[t] = 3;
            }
            int g = Make.giving(x, 0, same);
            check.due("judge, with others", x.judge(g, 0, towns - 1), 10 - 2 * (towns - 1));
            check.due("hurt, one less", x.hurt(g, 0, 0), 2 * (towns - 1));
            check.due("bar, no ROADS", x.bar(g, 0), -1);
            Make.rule(x, "near 0;worth other*10+day;");
            check.due("judge of all " + towns, x.judge(g, 0, -1), towns * (towns - 1) * 10 + 3 * towns);
            check.due("find(2, 0), all on the last DAY", x.find(2, 0), towns * (towns - 1) * 10 + 5 * towns);
            check.due("foundDay of the last", x.foundDay(towns - 1), 5);
        }
    }

    private static void tenFeasts() {
        check.promise(8, "FEASTS (10 at most)");
        MarketDays x = Make.towns(1);
        x.image();
        int g = Make.giving(x, 0, 0);
        for (int n = 1; n <= 10; n++) {
            check.due("feast(" + (n + 10) + ", 0)", x.feast(n + 10, 0), n);
            check.due("marketOf in WEEK " + (n + 10), x.marketOf(g, 0, n + 10), 2);
        }
        check.due("feast(21, 0), an eleventh", x.feast(21, 0), -4);
        check.due("feast(11, 0), there already", x.feast(11, 0), -4);
        check.due("feast(100, 0), BAD ahead of FULL", x.feast(100, 0), -2);
        check.due("feast(21, 7), BAD ahead of FULL", x.feast(21, 7), -2);
        check.due("marketOf in WEEK 21", x.marketOf(g, 0, 21), 1);
        check.due("count(2)", x.count(2), 10);
        check.due("lawful(g, 99)", x.lawful(g, 99), 100);
        x.want(0, 0, 1);
        check.due("lawful(g, 99), ten FEASTS", x.lawful(g, 99), 90);
        check.due("back()", x.back(), 1);
        check.due("count(2), as in THE IMAGE", x.count(2), 0);
        check.due("marketOf in WEEK 20", x.marketOf(g, 0, 20), 1);
        check.due("feast(21, 0), room again", x.feast(21, 0), 1);
        check.due("marketOf in WEEK 21", x.marketOf(g, 0, 21), 2);
        check.due("marketOf in WEEK 11", x.marketOf(g, 0, 11), 1);
        for (int n = 2; n <= 10; n++) {
            x.feast(0, 6);
        }
        x.image();
        check.due("back(), ten FEASTS", x.back(), 1);
        check.due("count(2)", x.count(2), 10);
        check.due("feast(0, 0)", x.feast(0, 0), -4);
    }

    private static void twelveGivings() {
        check.promise(14, "GIVINGS are numbered from 0 on, 12 at most");
        MarketDays x = Make.towns(1);
        for (int g = 0; g < 12; g++) {
            check.due("giving", Make.giving(x, g % 6, g % 5), g);
            check.due("count(3)", x.count(3), g + 1);
            check.due("taken(" + (6 + g) + ", 0)", x.taken(6 + g, 0), g);
            check.due("taken(" + (7 + g) + ", 0)", x.taken(7 + g, 0), g < 11 ? -11 : -12);
        }
        check.due("giving, a thirteenth", Make.giving(x, 0, 0), -4);
        check.due("giving of a bad number, BAD ahead of FULL", Make.giving(x, 0, 6), -2);
        check.due("giving of a bad size, BAD ahead of FULL", Make.giving(x, 0, 0, 0), -2);
        check.due("giving(6, 3), BAD ahead of FULL", x.giving(6, 3), -2);
        check.due("giving(0, 4), BAD ahead of FULL", x.giving(0, 4), -2);
        check.due("giving(0, 0), -11 ahead of FULL", x.giving(0, 0), -11);
        for (int g = 0; g < 12; g++) {
            check.due("givingTold(" + g + ", 0), as it was", x.givingTold(g, 0), g % 6);
            check.due("marketOf(" + g + ", 0, 0), as it was", x.marketOf(g, 0, 0) & 1 << g % 5, 1 << g % 5);
        }
        x.image();
        x.back();
        check.due("count(3), no IMAGE keeps GIVINGS", x.count(3), 12);
    }

    private static void sheetsOfNone() {
        check.promise(33, "a row of 0 is not missing");
        MarketDays x = Make.towns(1);
        for (int sort = 0; sort < 3; sort++) {
            check.due("sheet(0, " + sort + ", 0)", x.sheet(0, sort, 0), 1);
            check.due("cell(0, 0, 0)", x.cell(0, 0, 0), -12);
            check.due("copy of none", x.copy(0, 0, 0, 0, 0), 0);
            check.due("copy of one", x.copy(0, 0, 0, 0, 1), -12);
            check.due("copy of none from 1", x.copy(0, 1, 0, 0, 0), -12);
            check.due("roads of none", x.roads(0, sort, 0, 0), 0);
            check.due("roads of one", x.roads(0, sort, 0, 1), -12);
            check.due("roads of another sort", x.roads(0, (sort + 1) % 3, 0, 0), -13);
            check.due("giving, too few", x.giving(0, 0), -2);
        }
        check.promise(33, "missing (sort -1: n does not matter)");
        for (int n : new int[] {-1, 0, 1, 41}) {
            x.sheet(0, 0, 1);
            check.due("cell(0, 0, 1)", x.cell(0, 0, 1), 1);
            check.due("sheet(0, -1, " + n + ")", x.sheet(0, -1, n), 1);
            check.due("cell(0, 0, 1), missing", x.cell(0, 0, 1), -11);
            check.due("giving(0, 0), missing", x.giving(0, 0), -11);
            check.due("roads(0, 0, 0, 0), missing", x.roads(0, 0, 0, 0), -11);
            check.due("sheet(0, -1, 0), missing already", x.sheet(0, -1, 0), 1);
        }
    }

    private static void sheetsOfForty() {
        check.promise(36, "n of them (0 .. 13), 40 at most");
        for (int sort = 0; sort < 3; sort++) {
            MarketDays x = Make.towns(1, 2);
            x.sheet(0, sort, 40);
            for (int k = 0; k < 13; k++) {
                x.cell(0, 1 + 3 * k, 1);
                x.cell(0, 2 + 3 * k, 0);
                x.cell(0, 3 + 3 * k, k + 1);
            }
            for (int n = 0; n <= 13; n++) {
                x.road(0, 1, 0);
                check.due("roads(0, sort, 1, " + n + ")", x.roads(0, sort, 1, n), n);
                check.due("road(0, 1, 0), the last one told", x.road(0, 1, 0), n);
            }
            check.due("roads(0, sort, 2, 13), what stood ahead was", x.roads(0, sort, 2, 13), -12);
            check.due("roads(0, sort, 4, 13), what stood ahead was", x.roads(0, sort, 4, 13), -12);
            check.due("road(0, 1, 0), the last that stood there", x.road(0, 1, 0), 13);
            check.due("roads(0, sort, 37, 2)", x.roads(0, sort, 37, 2), -12);
            check.due("road(0, 1, 0), the last that stood there", x.road(0, 1, 0), 13);
            check.due("roads(0, sort, 38, 1), a part of one", x.roads(0, sort, 38, 1), -12);
            check.due("road(0, 1, 0), none was told", x.road(0, 1, 0), 0);
            x.sheet(0, sort, 40);
            check.due("roads by zeros: alike, left out", x.roads(0, sort, 0, 13), 0);
        }
        check.promise(35, "40 numbers, as they were");
        MarketDays x = Make.towns(1);
        x.sheet(0, 0, 40);
        x.sheet(1, 0, 40);
        x.cell(0, 39, 5);
        check.due("copy of 40", x.copy(0, 0, 1, 0, 40), 40);
        check.due("copy of 41", x.copy(0, 0, 1, 0, 41), -12);
        check.due("copy of 39, one on", x.copy(1, 0, 1, 1, 39), 39);
        check.due("copy of 40, one on", x.copy(1, 0, 1, 1, 40), -12);
        x.sheet(2, 0, 1);
        x.copy(1, 39, 2, 0, 1);
        check.due("giving of the last", x.giving(0, 2), 0);
        check.due("marketOf, copied over", x.marketOf(0, 0, 0), 1);
        x.copy(0, 39, 2, 0, 1);
        check.due("giving of the last", x.giving(0, 2), 1);
        check.due("marketOf, as it was", x.marketOf(1, 0, 0), 32);
    }

    private static void hoursOf99() {
        check.promise(4, "99: none leads there, or it is more");
        for (int last = 1; last <= 50; last++) {
            MarketDays x = Make.towns(1, 2, 3, 4);
            x.road(0, 1, 30);
            x.road(1, 2, 30);
            x.road(2, 3, last);
            check.due("hours(0, 3) of 60 and " + last, x.hours(0, 3), Math.min(99, 60 + last));
            check.due("hours(3, 0) of 60 and " + last, x.hours(3, 0), Math.min(99, 60 + last));
            Make.rule(x, "near hours=99;worth 0;");
            check.due("says(0, 3)", x.says(0, 3), last >= 39 ? 1 : 0);
        }
        MarketDays x = Make.towns(1, 2, 3, 4, 5, 6);
        for (int t = 1; t < 6; t++) {
            x.road(t - 1, t, 50);
            check.due("hours(0, " + t + ")", x.hours(0, t), Math.min(99, 50 * t));
            check.due("hours(" + t + ", " + t + "), to itself", x.hours(t, t), 0);
        }
        x.road(0, 5, 1);
        check.due("hours(1, 4), round about", x.hours(1, 4), 99);
        check.due("hours(0, 4), round about", x.hours(0, 4), 51);
        x.road(0, 5, 0);
        check.due("hours(0, 4), no road again", x.hours(0, 4), 99);
    }

    private static void manyWays() {
        check.promise(20, "100000: so many or more");
        MarketDays x = Make.towns(1, 2, 3, 4, 5, 6);
        x.week(7);
        check.due("can() of 117649", x.can(), 100000);
        x.want(5, 0, 126);
        check.due("can() of 100842", x.can(), 100000);
        x.want(5, 0, 124);
        check.due("can() of 84035", x.can(), 84035);
        x.want(5, 0, 127);
        x.road(0, 1, 1);
        check.due("can() of 100842, two NEAR", x.can(), 100000);
        x.road(2, 3, 1);
        check.due("can() of 86436, two and two NEAR", x.can(), 86436);
        check.due("find(2, 0) of so many", x.find(2, 0), 60);
        MarketDays y = Make.towns(1, 2, 3, 4, 5, 6);
        y.week(7);
        Make.rule(y, "near 0;worth day;");
        check.due("find(2, 0) of 117649, the last one", y.find(2, 0), 36);
        for (int t = 0; t < 6; t++) {
            check.due("foundDay(" + t + ")", y.foundDay(t), 6);
        }
        int g = Make.giving(y, 5, 6, 6, 6, 6, 6, 6);
        check.due("find(3, g) of 117649, the last one", y.find(3, g), 0);
        check.due("foundDay(5)", y.foundDay(5), 6);
        g = Make.giving(y, 1, 7, 7, 7, 7, 7, 7);
        check.due("find(3, g), all others", y.find(3, g), 6);
        check.due("foundDay(5), the first one", y.foundDay(5), 0);
    }

    private static void packs() {
        check.promise(27, "PACK 0 .. 40: no more than he has left");
        MarketDays x = Make.towns(30, 9);
        x.week(2);
        x.road(0, 1, 1);
        int g = Make.giving(x, 0, 1, 0);
        for (int pack = 0; pack <= 40; pack++) {
            check.due("round with a PACK of " + pack, x.round(g, 0, 0, 1, pack), Math.min(pack, 39));
            check.due("roundTold(0)", x.roundTold(0), pack <= 30 ? 0 : 1);
            check.due("roundTold(1)", x.roundTold(1), 0);
        }
        for (int size = 5; size <= 15; size++) {
            MarketDays y = Make.towns(30, size);
            y.week(2);
            y.road(0, 1, 1);
            Make.giving(y, 0, 1, 0);
            Make.row(y, 0, 0, 1, 0);
            check.due("round by " + size + " and 30", y.round(0, 0, 0, 1, 40), Math.min(40, 30 + size));
            check.due("walk by " + size + " and 30: a PACK of 40", y.walk(0, 0, 0, 1, 0), Math.min(40, 30 + size));
        }
        MarketDays sold = Make.towns(0, 9);
        sold.week(2);
        sold.road(0, 1, 1);
        Make.giving(sold, 0, 0, 0);
        for (int pack = 1; pack <= 9; pack++) {
            check.due("round, all is sold on the first DAY", sold.round(0, 0, 1, 1, pack), pack);
            check.due("roundTold(0)", sold.roundTold(0), 1);
            check.due("roundTold(1), still HOME in the end", sold.roundTold(1), 1);
        }
        MarketDays rich = Make.towns(99, 0);
        int all = Make.giving(rich, 0, 0, 0);
        check.due("round, SIZE 99", rich.round(all, 0, 0, 0, 40), 40);
        check.due("round, SIZE 99, PACK 39", rich.round(all, 0, 0, 0, 39), 39);
        check.due("round, SIZE 0", rich.round(all, 0, 1, 0, 40), 0);
    }

    private static void strides() {
        check.promise(27, "no more HOURS than his STRIDE");
        for (int hours = 1; hours <= 50; hours++) {
            MarketDays x = Make.towns(1, 7);
            x.week(3);
            x.road(0, 1, hours);
            int g = Make.giving(x, 0, 1, 1);
            check.due("round, one less than " + hours, x.round(g, 0, 0, hours - 1, 40), 1);
            check.due("round, just " + hours, x.round(g, 0, 0, hours, 40), 7);
            Make.row(x, 0, 0, 0, 1, 0);
            check.due("walk, one less than " + hours, x.walk(g, 0, 0, hours - 1, 0), -21);
            check.due("walk, just " + hours, x.walk(g, 0, 0, hours, 0), 7);
            firstStride(hours);
        }
        MarketDays x = Make.towns(1, 7, 3);
        x.week(3);
        x.road(0, 2, 25);
        x.road(2, 1, 25);
        int g = Make.giving(x, 0, 1, 1, 1);
        check.due("round, 50 HOURS by two ROADS", x.round(g, 0, 0, 50, 40), 7);
        x.road(2, 1, 26);
        check.due("round, 51 HOURS by two ROADS", x.round(g, 0, 0, 50, 40), 3);
        x.road(0, 2, 0);
        check.due("round, no ROAD", x.round(g, 0, 0, 50, 40), 1);
    }

    /** From HOME to the first DAY's TOWN, with PACKS that are less and more than the STRIDE. */
    private static void firstStride(int hours) {
        MarketDays x = Make.towns(0, 40);
        x.week(2);
        x.road(0, 1, hours);
        int g = Make.giving(x, 0, 1, 0);
        for (int pack = 1; pack <= 40; pack += 13) {
            check.due("round at once, one less than " + hours, x.round(g, 0, 0, hours - 1, pack), 0);
            check.due("roundTold(0)", x.roundTold(0), 0);
            check.due("round at once, just " + hours, x.round(g, 0, 0, hours, pack), pack);
            check.due("roundTold(0)", x.roundTold(0), 1);
        }
        Make.row(x, 0, 0, 1, 0);
        check.due("walk at once, one less than " + hours, x.walk(g, 0, 0, hours - 1, 0), -20);
        check.due("walk at once, just " + hours, x.walk(g, 0, 0, hours, 0), 40);
    }

    private static void walkEnds() {
        check.promise(29, "-20 less the first DAY on which it is too far; -100: he isn't at HOME in the end");
        for (int n = 2; n <= 7; n++) {
            MarketDays x = Make.towns(5, 6);
            x.week(n);
            int g = Make.giving(x, 0, 0, n - 1);
            for (int far = 0; far < n; far++) {
                x.sheet(0, 0, n);
                for (int d = far; d < n; d++) {
                    x.cell(0, d, 1);
                }
                check.due("walk, too far on DAY " + far, x.walk(g, 0, 0, 0, 0), -20 - far);
                x.road(0, 1, 1);
                check.due("walk, not at HOME", x.walk(g, 0, 0, 1, 0), -100);
                check.due("walk, at HOME", x.walk(g, 0, 1, 1, 0), far == 0 ? 6 : 11);
                x.road(0, 1, 0);
            }
            x.sheet(0, 0, n - 1);
            check.due("walk, a DAY less than " + n, x.walk(g, 0, 0, 0, 0), -2);
            x.sheet(0, 0, n + 1);
            check.due("walk, a DAY more than " + n, x.walk(g, 0, 0, 0, 0), -2);
            check.due("round in a WEEK of " + n, x.round(g, 0, 1, 0, 40), 6);
            check.due("roundTold, the last DAY", x.roundTold(n - 1), 1);
            check.due("roundTold, behind it", x.roundTold(n), -1);
        }
    }

    private static void lawfulEnds() {
        check.promise(17, "In how many of the WEEKS 0 .. w");
        MarketDays x = Make.towns(1);
        x.want(0, 0, 2);
        int g = Make.giving(x, 0, 0);
        int told = Make.giving(x, 5, 1);
        x.feast(0, 0);
        x.feast(99, 0);
        x.feast(50, 0);
        for (int w = 0; w < 100; w++) {
            check.due("lawful(g, " + w + ")", x.lawful(g, w), w < 50 ? 1 : w < 99 ? 2 : 3);
            check.due("lawful of one that is, " + w, x.lawful(told, w), w + 1);
        }
    }

    private static void knots() {
        check.promise(24, "the fewest TOWNS; of like ones the least as bits; 0: there is none");
        for (int n = 2; n <= 7; n++) {
            for (int towns = 0; towns <= 6; towns++) {
                MarketDays x = new MarketDays();
                for (int t = 0; t < towns; t++) {
                    x.town(t);
                }
                x.week(n);
                Make.rule(x, "near 1;worth 1;");
                String at = towns + " TOWNS, all NEAR, in a WEEK of " + n;
                check.due("knot() of " + at, x.knot(), towns > n ? (1 << n + 1) - 1 : 0);
                check.due("least() of " + at, x.least(), Math.max(2, towns));
                check.due("find(1, 0) of " + at, x.find(1, 0), towns > n ? NO + 1 : 1);
            }
        }
        MarketDays x = Make.towns(1, 2, 3, 4, 5, 6);
        Make.rule(x, "near week<8;worth 1;");
        x.want(0, 0, 31);
        x.want(5, 0, 31);
        for (int t = 1; t < 5; t++) {
            x.want(t, 0, 31);
        }
        check.due("knot(), all six", x.knot(), 63);
        check.due("least(), not with 7", x.least(), -1);
        x.want(5, 0, 64);
        check.due("least(), only with 7", x.least(), 7);
    }

    /** Each knot is of two TOWNS that may only have DAY 0, or of three in a WEEK of 2, or of one that may have none. */
    private static void fewestOfKnots() {
        check.promise(24, "the fewest TOWNS; of like ones the least as bits");
        MarketDays x = Make.towns(1, 2, 3, 4, 5, 6);
        x.week(2);
        x.road(0, 1, 1);
        x.road(1, 2, 1);
        check.due("knot(), three of a chain", x.knot(), 7);
        x.road(4, 5, 1);
        x.want(4, 0, 1);
        x.want(5, 0, 1);
        check.due("knot(), two ahead of three", x.knot(), 48);
        x.want(3, 0, 4);
        check.due("knot(), one ahead of two and three", x.knot(), 8);
        x.want(0, 0, 0);
        check.due("knot(), the least of one", x.knot(), 1);
        MarketDays two = Make.towns(1, 2, 3, 4, 5, 6);
        for (int t = 0; t < 6; t++) {
            two.want(t, 0, 1);
        }
        two.road(0, 5, 1);
        check.due("knot(), the first and the last", two.knot(), 33);
        two.road(1, 4, 1);
        check.due("knot(), least as bits, not by TOWNS", two.knot(), 18);
        two.road(2, 3, 1);
        check.due("knot(), least as bits, not by TOWNS", two.knot(), 12);
    }

    private static void imageOfNone() {
        check.promise(32, "an IMAGE of no TOWNS: those that came since stay as they are");
        MarketDays x = new MarketDays();
        check.due("back(), there is none", x.back(), -3);
        check.due("image()", x.image(), 0);
        x.town(1);
        x.town(2);
        x.road(0, 1, 3);
        x.want(0, 0, 5);
        x.want(0, 1, 4);
        x.want(0, 2, 1);
        x.week(3);
        x.feast(0, 0);
        Make.rule(x, "near 1;worth 1;");
        check.due("back()", x.back(), 2);
        check.due("hours(0, 1), ROADS between them stay", x.hours(0, 1), 3);
        check.due("townTold(0, 0)", x.townTold(0, 0), 1);
        check.due("townTold(0, 1)", x.townTold(0, 1), 5);
        check.due("townTold(0, 2)", x.townTold(0, 2), 4);
        check.due("townTold(0, 3)", x.townTold(0, 3), 1);
        int[] counts = {2, 6, 0, 0, 2, 0, 0};
        for (int what = 0; what < counts.length; what++) {
            check.due("count(" + what + ")", x.count(what), counts[what]);
        }
    }

    /** Of six TOWNS any number can have come since. */
    private static void imageOfSix() {
        check.promise(32, "ROADS between TOWNS that came since stay, those to others are gone");
        for (int then = 0; then <= 6; then++) {
            MarketDays x = new MarketDays();
            for (int t = 0; t < then; t++) {
                x.town(t);
            }
            if (then >= 2) {
                x.road(0, then - 1, 9);
            }
            check.due("image()", x.image(), then);
            for (int t = then; t < 6; t++) {
                x.town(t);
            }
            for (int a = 0; a < 6; a++) {
                x.want(a, 1, a);
                for (int b = 0; b < a; b++) {
                    x.road(a, b, 10 + a);
                }
            }
            check.due("back()", x.back(), 6);
            for (int a = 0; a < 6; a++) {
                check.due("townTold(" + a + ", 2) of " + then, x.townTold(a, 2), a < then ? -1 : a);
                for (int b = 0; b < a; b++) {
                    boolean kept = then >= 2 && b == 0 && a == then - 1;
                    int due = kept ? 9 : b >= then ? 10 + a : 0;
                    check.due("road(" + a + ", " + b + ") of " + then, x.road(a, b, 0), due);
                }
            }
            check.due("town(0), still FULL", x.town(0), -4);
        }
    }

    private static void imageAgain() {
        check.promise(31, "AN IMAGE is kept: the last one");
        MarketDays x = Make.towns(1, 2);
        x.road(0, 1, 5);
        x.image();
        x.road(0, 1, 6);
        for (int i = 0; i < 3; i++) {
            check.due("back()", x.back(), 2);
            check.due("road(0, 1, 7), as in THE IMAGE", x.road(0, 1, 7), 5);
        }
        check.due("image(), another one", x.image(), 2);
        x.road(0, 1, 8);
        check.due("back()", x.back(), 2);
        check.due("hours(0, 1)", x.hours(0, 1), 7);
        x.town(3);
        x.road(1, 2, 4);
        check.due("image(), with a TOWN more", x.image(), 3);
        x.road(1, 2, 0);
        check.due("back()", x.back(), 3);
        check.due("hours(0, 2), kept now", x.hours(0, 2), 11);
    }

    private static void imageOfTheRule() {
        check.promise(32, "THE RULE is as in THE IMAGE; TEXTS stay");
        MarketDays x = Make.towns(1, 2);
        for (int t = 1; t <= 5; t++) {
            Make.text(x, "near " + t + ";worth " + t + ";");
            x.force(t);
            x.image();
            for (int other = 0; other <= t; other++) {
                x.force(other);
                check.due("back()", x.back(), 2);
                check.due("count(5)", x.count(5), t);
                check.due("says(0, 1)", x.says(0, 1), t);
                check.due("worthOf(0, 0, 0, 0)", x.worthOf(0, 0, 0, 0), t);
            }
            check.due("count(4)", x.count(4), t + 1);
        }
        x.force(0);
        x.image();
        x.force(5);
        x.back();
        check.due("count(5), TEXT 0 again", x.count(5), 0);
        check.due("worthOf(0, 0, 0, 0)", x.worthOf(0, 0, 0, 0), 10);
    }

    private static void calls() {
        check.promise(1, "at most 512 calls after it has been made: the last one is answered as the first ones");
        MarketDays x = Scene.full();
        for (int i = 0; i < 40; i++) {
            check.due("week(" + (2 + i % 6) + ")", x.week(2 + i % 6), i == 0 ? 7 : 6);
            check.due("back()", x.back(), 6);
            check.due("count(1)", x.count(1), 6);
            check.due("count(5)", x.count(5), 0);
            check.due("can(), three TOWNS all NEAR, a fourth to one of them", x.can(), 6 * 5 * 4 * 5 * 6 * 6);
            check.due("town(1)", x.town(1), -4);
            check.due("feed(0, 8)", x.feed(0, 8), -4);
            check.due("text()", x.text(), -4);
            check.due("giving(0, 0)", x.giving(0, 3), -11);
        }
    }
}
