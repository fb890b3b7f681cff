/** Promises 14 to 19: givings. */
public final class GivingsTest {
    private static final long NO = MarketDays.NO;
    private static final Check check = new Check("GivingsTest");

    public static void main(String[] args) {
        giving();
        numbersThatMayBeTold();
        marketOf();
        feasts();
        bar();
        behind();
        lawful();
        judge();
        worthOfKinds();
        givingTold();
        check.end();
    }

    private static void giving() {
        check.promise(14, "giving");
        MarketDays x = Make.towns(1, 2);
        check.due("giving(0, 0), no SHEET", x.giving(0, 0), -11);
        check.due("giving(-1, 0), BAD ahead of -11", x.giving(-1, 0), -2);
        check.due("giving(6, 0)", x.giving(6, 0), -2);
        check.due("giving(0, 4)", x.giving(0, 4), -2);
        check.due("giving(0, -1)", x.giving(0, -1), -2);
        Make.row(x, 0, 0, 1);
        check.due("giving(0, 0), too few", x.giving(0, 0), -2);
        Make.row(x, 0, 0, 1, 2, 3);
        check.due("giving(0, 0), too many", x.giving(0, 0), -2);
        check.due("count(3)", x.count(3), 0);
        for (int g = 0; g < 12; g++) {
            Make.row(x, g % 3, g % 3, g % 6, 5);
            check.due("giving(.., ..)", x.giving(g % 6, g % 3), g);
        }
        check.due("giving(0, 0), a thirteenth", x.giving(0, 0), -4);
        Make.row(x, 0, 0, 1, 6);
        check.due("giving(0, 0), BAD ahead of FULL", x.giving(0, 0), -2);
        check.due("count(3)", x.count(3), 12);
        check.due("marketOf(12, 0, 0)", x.marketOf(12, 0, 0), -5);
        Make.row(x, 2, 2, 0, 0);
        check.due("marketOf(11, 0, 0), the SHEET is copied", x.marketOf(11, 0, 0), 32);
    }

    private static void numbersThatMayBeTold() {
        int[] most = {4, 7, 4, 4, 4, 7};
        for (int kind = 0; kind < 6; kind++) {
            MarketDays x = Make.towns(1, 2);
            x.week(5);
            check.due("giving by 0, -1", Make.giving(x, kind, 0, -1), -2);
            check.due("giving by too much", Make.giving(x, kind, most[kind] + 1, 0), -2);
            check.due("giving by the most", Make.giving(x, kind, 0, most[kind]), 0);
        }
        MarketDays empty = new MarketDays();
        check.due("giving of no TOWNS", Make.giving(empty, 3), 0);
    }

    private static void markets(MarketDays x, int g, int w, int... due) {
        for (int t = 0; t < due.length; t++) {
            check.due("marketOf(" + g + ", " + t + ", " + w + ")", x.marketOf(g, t, w), due[t]);
        }
    }

    private static void marketOf() {
        check.promise(15, "marketOf");
        MarketDays x = Make.towns(1, 2, 3);
        x.week(5);
        for (int kind = 0; kind < 6; kind++) {
            Make.giving(x, kind, 0, 3, 4);
        }
        Make.giving(x, 1, 7, 6, 5);
        markets(x, 0, 7, 1, 8, 16);
        markets(x, 1, 7, 1, 8, 16);
        markets(x, 2, 7, 1 + 4, 8 + 1, 16 + 2);
        markets(x, 3, 7, 4, 1, 2);
        markets(x, 3, 10, 1, 8, 16);
        markets(x, 4, 8, 8, 2, 4);
        markets(x, 4, 7, 16, 4, 8);
        markets(x, 4, 99, 2, 16, 1);
        markets(x, 5, 7, 1, 8, 16);
        markets(x, 6, 7, 0, 0, 0);
        x.town(4);
        check.due("marketOf(2, 3, 0), a TOWN that came since", x.marketOf(2, 3, 0), 0);
        check.due("marketOf(3, 3, 0), a TOWN that came since", x.marketOf(3, 3, 0), 0);
        x.week(4);
        markets(x, 0, 0, 1, 8, 0);
        markets(x, 2, 0, 1 + 4, 8 + 2, 0);
        markets(x, 3, 1, 2, 1, 0);
        x.week(7);
        markets(x, 6, 0, 0, 64, 32);
        markets(x, 2, 0, 1 + 8, 8 + 64, 16 + 1);
        check.due("marketOf(7, 0, 0)", x.marketOf(7, 0, 0), -5);
        check.due("marketOf(-1, 0, 0)", x.marketOf(-1, 0, 0), -5);
        check.due("marketOf(0, 4, 0)", x.marketOf(0, 4, 0), -5);
        check.due("marketOf(0, -1, 0)", x.marketOf(0, -1, 0), -5);
        check.due("marketOf(0, 0, 100)", x.marketOf(0, 0, 100), -5);
        check.due("marketOf(0, 0, -1)", x.marketOf(0, 0, -1), -5);
    }

    private static void feasts() {
        check.promise(15, "marketOf, FEASTS");
        MarketDays x = Make.towns(1, 2, 3);
        for (int kind = 0; kind < 6; kind++) {
            Make.giving(x, kind, 0, 2, 5);
        }
        x.feast(2, 5);
        x.feast(2, 0);
        x.feast(2, 6);
        markets(x, 0, 2, 2, 4, 2);
        markets(x, 1, 2, 2, 4, 2);
        markets(x, 2, 2, 2 + 8, 4 + 2, 2 + 4);
        markets(x, 3, 2, 4, 16, 2);
        markets(x, 4, 2, 4, 16, 2);
        markets(x, 5, 2, 1, 4, 32);
        markets(x, 0, 1, 1, 4, 32);
        x.week(7);
        markets(x, 0, 2, 2, 4, 1);
        x.week(5);
        markets(x, 0, 2, 2, 4, 0);
        x.feast(3, 2);
        x.feast(3, 2);
        markets(x, 0, 3, 1, 8, 0);
        x.week(2);
        x.feast(4, 0);
        markets(x, 2, 4, 2, 0, 0);
    }

    private static void bar() {
        check.promise(16, "bar");
        MarketDays x = Make.towns(1, 2, 3);
        x.road(0, 1, 3);
        x.road(1, 2, 3);
        int g = Make.giving(x, 0, 0, 1, 0);
        check.due("bar, too far to be NEAR", x.bar(g, 0), -1);
        x.road(0, 2, 3);
        check.due("bar, NEAR", x.bar(g, 0), 2);
        x.want(1, 0, 1);
        check.due("bar, the least such number", x.bar(g, 0), 2);
        x.want(0, 0, 126);
        check.due("bar, itself", x.bar(g, 0), 0);
        x.want(0, 0, 127);
        x.road(0, 2, 0);
        check.due("bar, a later one itself", x.bar(g, 0), 11);
        x.want(1, 0, 127);
        int twice = Make.giving(x, 2, 0, 2, 3);
        check.due("bar, shares one of two DAYS, not NEAR", x.bar(twice, 0), -1);
        x.road(0, 2, 1);
        check.due("bar, shares one of two DAYS", x.bar(twice, 0), 2);
        x.want(2, 0, 8);
        x.road(0, 2, 0);
        check.due("bar, one of two DAYS that it may not have", x.bar(twice, 0), 22);
        x.feast(5, 0);
        check.due("bar, moved by a FEAST", x.bar(g, 5), 1);
        check.due("bar(2, 0)", x.bar(2, 0), -5);
        check.due("bar(-1, 0)", x.bar(-1, 0), -5);
        check.due("bar(0, -1)", x.bar(0, -1), -5);
        check.due("bar(0, 100)", x.bar(0, 100), -5);
        nearOfTheLesserOne();
    }

    private static void nearOfTheLesserOne() {
        MarketDays x = Make.towns(5, 9);
        int g = Make.giving(x, 0, 1, 1);
        Make.rule(x, "near size<other;worth 0;");
        check.due("bar, near of the lesser one and the other", x.bar(g, 0), 1);
        Make.rule(x, "near other<size;worth 0;");
        check.due("bar, near of the lesser one and the other", x.bar(g, 0), -1);
        Make.rule(x, "near 0-1;worth 0;");
        check.due("bar, what isn't 0", x.bar(g, 0), 1);
        Make.rule(x, "near week=4;worth 0;");
        check.due("bar, the WEEK", x.bar(g, 0), -1);
        x.week(4);
        check.due("bar, the WEEK", x.bar(g, 0), 1);
    }

    private static void behind() {
        check.promise(16, "bar, BEHIND");
        MarketDays x = Make.towns(1, 2, 3);
        x.want(2, 2, 0);
        int g = Make.giving(x, 0, 2, 0, 3);
        check.due("bar, the DAY that follows", x.bar(g, 0), -1);
        g = Make.giving(x, 0, 3, 0, 2);
        check.due("bar, the DAY ahead", x.bar(g, 0), 2);
        g = Make.giving(x, 0, 5, 3, 0);
        check.due("bar, round the WEEK", x.bar(g, 0), -1);
        g = Make.giving(x, 1, 7, 3, 0);
        check.due("bar, the other has none", x.bar(g, 0), -1);
        g = Make.giving(x, 1, 3, 3, 7);
        check.due("bar, it has none", x.bar(g, 0), -1);
        g = Make.giving(x, 2, 0, 0, 4);
        check.due("bar, one of two follows one of two", x.bar(g, 0), -1);
        g = Make.giving(x, 2, 0, 0, 2);
        check.due("bar, none of two follows", x.bar(g, 0), 2);
        x.want(2, 2, -1);
        x.want(0, 2, 2);
        g = Make.giving(x, 0, 3, 0, 2);
        check.due("bar, the lesser one BEHIND", x.bar(g, 0), -1);
        x.want(2, 2, 0);
        check.due("bar, each BEHIND the other", x.bar(g, 0), 2);
        x.week(2);
        g = Make.giving(x, 0, 1, 0, 0);
        check.due("bar, each BEHIND the other in a WEEK of 2", x.bar(g, 0), -1);
    }

    private static void lawful() {
        check.promise(17, "lawful");
        MarketDays x = Make.towns(1, 2);
        x.want(0, 0, 1);
        int turn = Make.giving(x, 3, 0, 0);
        check.due("lawful(turn, 0)", x.lawful(turn, 0), 1);
        check.due("lawful(turn, 5)", x.lawful(turn, 5), 1);
        check.due("lawful(turn, 6)", x.lawful(turn, 6), 2);
        check.due("lawful(turn, 99)", x.lawful(turn, 99), 17);
        x.feast(12, 0);
        check.due("lawful(turn, 99), a FEAST", x.lawful(turn, 99), 16);
        check.due("lawful(1, 0)", x.lawful(1, 0), -5);
        check.due("lawful(-1, 0)", x.lawful(-1, 0), -5);
        check.due("lawful(0, -1)", x.lawful(0, -1), -5);
        check.due("lawful(0, 100)", x.lawful(0, 100), -5);
    }

    private static void judge() {
        check.promise(18, "judge");
        MarketDays x = Make.towns(10, 20, 30, 40);
        x.road(0, 1, 5);
        x.road(1, 2, 7);
        Make.rule(x, "near 0;worth hours;");
        int g = Make.giving(x, 0, 0, 0, 1, 3);
        check.due("judge, the DAY ahead of 1", x.judge(g, 0, 2), 7);
        check.due("judge, the DAY ahead of 0 has none", x.judge(g, 0, 0), 99);
        check.due("judge, the DAY ahead of 3 has none", x.judge(g, 0, 3), 99);
        check.due("judge of all", x.judge(g, 0, -1), 99 + 99 + 7 + 99);
        g = Make.giving(x, 0, 0, 5, 5, 1);
        check.due("judge, round the WEEK, the nearest", x.judge(g, 0, 0), 5);
        check.due("judge, none leads there", x.judge(g, 0, 3), 99);
        Make.rule(x, "near 0;worth size*10+other;");
        g = Make.giving(x, 0, 0, 0, 0, 1);
        check.due("judge, others", x.judge(g, 0, 1), 202);
        check.due("judge, no others", x.judge(g, 0, 3), 400);
        Make.rule(x, "near 0;worth day*100+want*10+week;");
        x.want(3, 1, 1);
        check.due("judge, its WISH", x.judge(g, 0, 3), 116);
        check.due("judge, none", x.judge(g, 0, 2), 6);
        x.feast(0, 1);
        check.due("judge, moved by a FEAST", x.judge(g, 0, 3), 206);
        Make.rule(x, "near 0;worth 500+size*50;");
        check.due("judge, the bounds ahead of the sum", x.judge(g, 0, -1), 4 * 999);
        x.town(50);
        check.due("judge of all, a TOWN that came since has none", x.judge(g, 0, -1), 4 * 999);
        check.due("judge(g, 0, 5)", x.judge(g, 0, 5), NO);
        check.due("judge(g, 0, -2)", x.judge(g, 0, -2), NO);
        check.due("judge(g, -1, 0)", x.judge(g, -1, 0), NO);
        check.due("judge(g, 100, 0)", x.judge(g, 100, 0), NO);
        check.due("judge(3, 0, 0)", x.judge(3, 0, 0), NO);
        check.due("judge(-1, 0, 0)", x.judge(-1, 0, 0), NO);
    }

    private static void worths(MarketDays x, int g, int... due) {
        for (int t = 0; t < due.length; t++) {
            check.due("judge(" + g + ", 0, " + t + ")", x.judge(g, 0, t), due[t]);
        }
    }

    private static void worthOfKinds() {
        check.promise(18, "judge, KINDS");
        MarketDays x = Make.towns(1, 2);
        Make.rule(x, "near 0;worth 10+day*3;");
        worths(x, Make.giving(x, 0, 1, 2), 13, 16);
        worths(x, Make.giving(x, 1, 1, 7), 13, -1);
        worths(x, Make.giving(x, 2, 1, 2), (13 + 22) / 2, (16 + 25) / 2);
        worths(x, Make.giving(x, 3, 1, 2), 11, 14);
        worths(x, Make.giving(x, 4, 1, 2), 11, 14);
        worths(x, Make.giving(x, 5, 1, 7), 14, 0);
        Make.rule(x, "near 0;worth -(10+day*3);");
        worths(x, 2, -17, -20);
        worths(x, 1, -13, -1);
        worths(x, 5, -12, 0);
        x.town(3);
        int[] sinceThen = {0, -1, 0, -2, -2, 0};
        for (int kind = 0; kind < 6; kind++) {
            check.due("judge of a TOWN that came since", x.judge(kind, 0, 2), sinceThen[kind]);
        }
        check.due("judge of all, one that came since", x.judge(1, 0, -1), -13 - 1 - 1);
        x.week(2);
        x.feast(0, 1);
        check.due("judge of TWICE, a FEAST makes one DAY of two", x.judge(2, 0, 0), -5);
    }

    private static void givingTold() {
        check.promise(19, "givingTold");
        MarketDays x = Make.towns(1, 2);
        for (int kind = 0; kind < 6; kind++) {
            int g = Make.giving(x, kind, 0, 1);
            check.due("givingTold(g, 0)", x.givingTold(g, 0), kind);
            check.due("givingTold(g, 2)", x.givingTold(g, 2), kind == 5 ? 0 : 1);
        }
        x.town(3);
        int g = Make.giving(x, 0, 0, 1, 2);
        check.due("givingTold(g, 1)", x.givingTold(g, 1), 3);
        check.due("givingTold(0, 1), TOWNS came since", x.givingTold(0, 1), 2);
        check.due("givingTold(0, 3)", x.givingTold(0, 3), -7);
        check.due("givingTold(0, -1)", x.givingTold(0, -1), -7);
        check.due("givingTold(7, 9), -5 ahead of -7", x.givingTold(7, 9), -5);
        check.due("givingTold(-1, 0)", x.givingTold(-1, 0), -5);
    }
}
