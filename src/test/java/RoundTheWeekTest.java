/** What goes round the WEEK: every DAY of every WEEK of 2 .. 7. */
public final class RoundTheWeekTest {
    private static final Check check = new Check("RoundTheWeekTest");

    public static void main(String[] args) {
        kinds();
        shrunkAndGrown();
        feasts();
        feastsOneByOne();
        feastsOfTwice();
        behind();
        behindTwice();
        dayAhead();
        bestOfTwo();
        found();
        wishes();
        check.end();
    }

    private static MarketDays towns(int days, int towns) {
        MarketDays x = new MarketDays();
        for (int t = 0; t < towns; t++) {
            x.town(t + 1);
        }
        x.week(days);
        return x;
    }

    private static void kinds() {
        check.promise(15, "DAYS of each KIND, round the WEEK");
        for (int n = 2; n <= 7; n++) {
            for (int d = 0; d < n; d++) {
                MarketDays x = towns(n, 1);
                for (int kind = 0; kind < 6; kind++) {
                    Make.giving(x, kind, d);
                }
                for (int w = 0; w < 100; w++) {
                    String at = " of DAY " + d + " in a WEEK of " + n + ", WEEK " + w;
                    int season = w % 2 == 0 ? w : w + 2;
                    check.due("GIVING" + at, x.marketOf(0, 0, w), 1 << d);
                    check.due("PART" + at, x.marketOf(1, 0, w), 1 << d);
                    check.due("TWICE" + at, x.marketOf(2, 0, w), 1 << d | 1 << (d + n / 2) % n);
                    check.due("TURN" + at, x.marketOf(3, 0, w), 1 << (d + w) % n);
                    check.due("SEASON" + at, x.marketOf(4, 0, w), 1 << (d + season) % n);
                    check.due("TOLD" + at, x.marketOf(5, 0, w), 1 << d);
                }
            }
        }
    }

    private static void shrunkAndGrown() {
        check.promise(15, "none, if the WEEK has none such any more");
        for (int n = 2; n <= 7; n++) {
            for (int d = 0; d <= 7; d++) {
                MarketDays x = towns(7, 1);
                for (int kind = 0; kind < 6; kind++) {
                    Make.giving(x, kind, kind == 1 || kind == 5 ? d : Math.min(d, 6));
                }
                x.week(n);
                for (int kind = 0; kind < 6; kind++) {
                    int its = kind == 1 || kind == 5 ? d : Math.min(d, 6);
                    int due = its >= n ? 0 : kind == 2 ? 1 << its | 1 << (its + n / 2) % n : 1 << its;
                    String call = "marketOf(" + kind + ", 0, 0) of " + its + " in a WEEK of " + n;
                    check.due(call, x.marketOf(kind, 0, 0), due);
                }
                x.week(7);
                check.due("marketOf(1, 0, 0), as the WEEK has it again", x.marketOf(1, 0, 0), d < 7 ? 1 << d : 0);
            }
        }
    }

    private static void feasts() {
        check.promise(15, "it has the next one (round the WEEK); a FEAST on a DAY that the WEEK hasn't moves none");
        for (int n = 2; n <= 7; n++) {
            for (int feast = 0; feast < 7; feast++) {
                MarketDays x = towns(n, 1);
                x.feast(0, feast);
                x.feast(99, feast);
                for (int d = 0; d < n; d++) {
                    int g = Make.giving(x, 0, d);
                    int due = d == feast ? 1 << (d + 1) % n : 1 << d;
                    String at = "FEAST " + feast + " on DAY " + d + " in a WEEK of " + n;
                    check.due(at, x.marketOf(g, 0, 0), due);
                    check.due(at + ", in the last WEEK", x.marketOf(g, 0, 99), due);
                    check.due(at + ", in another WEEK", x.marketOf(g, 0, 1), 1 << d);
                    check.due(at + ", in another WEEK", x.marketOf(g, 0, 98), 1 << d);
                }
                int told = Make.giving(x, 5, feast);
                check.due("FEAST of TOLD", x.marketOf(told, 0, 0), feast < n ? 1 << feast : 0);
            }
        }
    }

    private static void feastsOneByOne() {
        check.promise(15, "FEASTS of that WEEK, one by one");
        for (int n = 2; n <= 7; n++) {
            MarketDays x = towns(n, 1);
            int g = Make.giving(x, 0, 0);
            for (int d = 0; d < n; d++) {
                check.due("marketOf, before FEAST " + d, x.marketOf(g, 0, 3), 1 << d);
                x.feast(3, d);
            }
            check.due("marketOf, all round a WEEK of " + n, x.marketOf(g, 0, 3), 1);
            MarketDays y = towns(n, 1);
            g = Make.giving(y, 0, 0);
            for (int d = n - 1; d >= 0; d--) {
                y.feast(3, d);
            }
            check.due("marketOf, the last FEAST first", y.marketOf(g, 0, 3), 2);
            y.feast(3, 0);
            check.due("marketOf, a FEAST again", y.marketOf(g, 0, 3), 2);
        }
    }

    private static void feastsOfTwice() {
        check.promise(15, "in its place: of two DAYS one can come to be");
        for (int n = 2; n <= 7; n++) {
            for (int d = 0; d < n; d++) {
                for (int feast = 0; feast < n; feast++) {
                    MarketDays x = towns(n, 1);
                    x.feast(1, feast);
                    int g = Make.giving(x, 2, d);
                    int other = (d + n / 2) % n;
                    int due = 1 << (d == feast ? (d + 1) % n : d) | 1 << (other == feast ? (other + 1) % n : other);
                    check.due("TWICE of " + d + ", FEAST " + feast + ", WEEK of " + n, x.marketOf(g, 0, 1), due);
                }
            }
        }
    }

    private static void behind() {
        check.promise(16, "it has none that follows one of the other's (round the WEEK)");
        for (int n = 2; n <= 7; n++) {
            for (int who = 0; who < 2; who++) {
                MarketDays x = towns(n, 2);
                x.want(who, 2, 1 - who);
                for (int d = 0; d < n; d++) {
                    behindOne(x, n, who, d);
                }
                check.due("can() with one BEHIND in a WEEK of " + n, x.can(), n);
                check.due("find(1, 0)", x.find(1, 0), 1);
                check.due("foundDay(0)", x.foundDay(0), 0);
                check.due("foundDay(1)", x.foundDay(1), who == 1 ? 1 : n - 1);
            }
        }
    }

    private static void behindOne(MarketDays x, int n, int who, int d) {
        Make.row(x, 3, 0, d, d);
        int g = x.count(3);
        if (g < 12) {
            x.giving(1, 3);
            check.due("room BEHIND DAY " + d, x.room(g, who, 0), 1 << (d + 1) % n);
            check.due("room ahead of DAY " + d, x.room(g, 1 - who, 0), 1 << (d + n - 1) % n);
            check.due("bar of the same DAY", x.bar(g, 0), 1);
        }
        for (int its = 0; its <= 7; its++) {
            MarketDays y = towns(n, 2);
            y.want(who, 2, 1 - who);
            int giving = who == 0 ? Make.giving(y, 1, its, d) : Make.giving(y, 1, d, its);
            boolean isGood = its >= n || its == (d + 1) % n;
            check.due("bar of " + its + " BEHIND " + d + " in a WEEK of " + n, y.bar(giving, 0), isGood ? -1 : 1);
            giving = who == 0 ? Make.giving(y, 1, its, 7) : Make.giving(y, 1, 7, its);
            check.due("bar of " + its + " BEHIND one that has none", y.bar(giving, 0), -1);
        }
    }

    private static void behindTwice() {
        check.promise(16, "none of its DAYS follows one of the other's");
        for (int n = 2; n <= 7; n++) {
            for (int a = 0; a < n; a++) {
                for (int b = 0; b < n; b++) {
                    MarketDays x = towns(n, 2);
                    x.want(1, 2, 0);
                    int g = Make.giving(x, 2, a, b);
                    boolean follows = false;
                    for (int first : new int[] {a, (a + n / 2) % n}) {
                        for (int second : new int[] {b, (b + n / 2) % n}) {
                            follows |= second == (first + 1) % n;
                        }
                    }
                    check.due("bar of TWICE " + a + ", " + b + " in a WEEK of " + n, x.bar(g, 0), follows ? -1 : 1);
                }
            }
        }
    }

    /** The document calls what stands before something else "ahead" of it. */
    private static void dayAhead() {
        check.promise(18, "hours: on the DAY ahead (round the WEEK; 99: none)");
        for (int n = 2; n <= 7; n++) {
            for (int d = 0; d < n; d++) {
                for (int other = 0; other <= 7; other++) {
                    MarketDays x = towns(n, 2);
                    x.road(0, 1, 5);
                    Make.rule(x, "near 0;worth hours;");
                    int g = Make.giving(x, 1, d, other);
                    int due = other == (d + n - 1) % n ? 5 : 99;
                    check.due("judge of " + d + " by " + other + " in a WEEK of " + n, x.judge(g, 0, 0), due);
                }
                MarketDays alone = towns(n, 1);
                Make.rule(alone, "near 0;worth hours;");
                int twice = Make.giving(alone, 2, d);
                check.due("judge of TWICE, its own DAY is no other's", alone.judge(twice, 0, 0), 99);
            }
        }
    }

    /** The best of two is the best that judge() tells of, the first one of like ones. */
    private static void bestOfTwo() {
        check.promise(21, "the greatest WORTH of all TOWNS, hours round the WEEK");
        for (int n = 2; n <= 7; n++) {
            for (String rule : new String[] {"-hours", "hours", "day*day-hours*3", "day-hours*2-other*9"}) {
                MarketDays x = towns(n, 2);
                x.road(0, 1, 5);
                Make.rule(x, "near 0;worth " + rule + ";");
                long best = MarketDays.NO;
                int first = -1;
                for (int way = 0; way < n * n; way++) {
                    MarketDays y = towns(n, 2);
                    y.road(0, 1, 5);
                    Make.rule(y, "near 0;worth " + rule + ";");
                    long worth = y.judge(Make.giving(y, 0, way / n, way % n), 0, -1);
                    if (worth > best) {
                        best = worth;
                        first = way;
                    }
                }
                check.due("find(2, 0) by " + rule + " in a WEEK of " + n, x.find(2, 0), best);
                check.due("foundDay(0)", x.foundDay(0), first / n);
                check.due("foundDay(1)", x.foundDay(1), first % n);
            }
        }
    }

    private static void found() {
        check.promise(20, "DAYS of the WEEK that they may have");
        for (int n = 2; n <= 7; n++) {
            MarketDays x = towns(n, 1);
            check.due("can() in a WEEK of " + n, x.can(), n);
            for (int may = 0; may < 128; may++) {
                x.want(0, 0, may);
                int in = may & (1 << n) - 1;
                check.due("can() of " + may, x.can(), Integer.bitCount(in));
                if (may % 8 == 0 || may == 127) {
                    check.due("find(1, 0) of " + may, x.find(1, 0), in == 0 ? MarketDays.NO + 1 : 1);
                    check.due("foundDay(0)", x.foundDay(0), in == 0 ? -1 : Integer.numberOfTrailingZeros(in));
                    check.due("knot() of " + may, x.knot(), in == 0 ? 1 : 0);
                    int last = Integer.numberOfTrailingZeros(may);
                    check.due("least() of " + may, x.least(), may == 0 ? -1 : Math.max(2, last + 1));
                }
            }
        }
    }

    /** A WISH can be a DAY that the WEEK hasn't: it is told, but no DAY is its WISH. */
    private static void wishes() {
        check.promise(13, "want: 1, if it is its WISH, else 0");
        for (int n = 2; n <= 7; n++) {
            for (int wish = -1; wish < 7; wish++) {
                MarketDays x = towns(n, 1);
                x.want(0, 1, wish);
                for (int d = 0; d < n; d++) {
                    int due = d == wish ? 15 : 10;
                    check.due("worthOf(0, " + d + ", 0, 0), WISH " + wish, x.worthOf(0, d, 0, 0), due);
                    int g = Make.giving(x, 5, d);
                    check.due("judge of DAY " + d + ", WISH " + wish, x.judge(g, 0, 0), due + 1);
                }
                check.due("worthOf(0, " + n + ", 0, 0), no DAY", x.worthOf(0, n, 0, 0), MarketDays.NO);
                boolean isThere = wish >= 0 && wish < n;
                check.due("find(2, 0), WISH " + wish, x.find(2, 0), isThere ? 15 : 10);
                check.due("foundDay(0), WISH " + wish, x.foundDay(0), isThere ? wish : 0);
            }
        }
    }
}
