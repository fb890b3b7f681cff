/** Promises 9 to 13: rules. */
public final class RulesTest {
    private static final Check check = new Check("RulesTest");

    public static void main(String[] args) {
        feed();
        text();
        faultsOfTokens();
        faultsOfWords();
        faultsOfDepth();
        force();
        says();
        values();
        worthOf();
        check.end();
    }

    private static void feed() {
        check.promise(9, "feed");
        MarketDays x = new MarketDays();
        check.due("feed(0, 0)", x.feed(0, 0), -2);
        check.due("feed(0, -1)", x.feed(0, -1), -2);
        check.due("feed(0, 9)", x.feed(0, 9), -2);
        check.due("count(6)", x.count(6), 0);
        String text = "near 1;worth ";
        for (int i = 0; i < text.length(); i++) {
            check.due("feed(c, 1)", x.feed(0x7fffffffffffff00L + text.charAt(i), 1), i + 1);
        }
        check.due("feed(.., 2), the highest first", x.feed(0xffff000000000000L + '7' * 256 + ';', 2), 15);
        check.due("text()", x.text(), 1);
        x.town(1);
        x.force(1);
        check.due("worthOf(0, 0, 0, 0)", x.worthOf(0, 0, 0, 0), 7);
        for (int n = 8; n <= 152; n += 8) {
            check.due("feed(-1, 8)", x.feed(-1L, 8), n);
        }
        check.due("feed(32, 7)", x.feed(32, 7), 159);
        check.due("feed(32, 2), too many", x.feed(32, 2), -4);
        check.due("feed(32, 9), BAD ahead of FULL", x.feed(32, 9), -2);
        check.due("count(6), nothing came", x.count(6), 159);
        check.due("feed(32, 1)", x.feed(32, 1), 160);
        check.due("feed(32, 1), too many", x.feed(32, 1), -4);
    }

    private static void text() {
        check.promise(10, "text");
        MarketDays x = new MarketDays();
        check.due("text(), nothing", x.text(), -100);
        check.due("text()", Make.text(x, "near 0;worth 0;"), 1);
        check.due("count(6), empty then", x.count(6), 0);
        check.due("text(), a FAULT", Make.text(x, "near 0;worth 0"), -114);
        check.due("count(6), empty by a FAULT, too", x.count(6), 0);
        check.due("count(4), a FAULT is no TEXT", x.count(4), 2);
        String head = " near\n(hours)- size;\nworth ";
        String longest = head + " ".repeat(158 - head.length()) + "1;";
        check.due("text() of 160 bytes", Make.text(x, longest), 2);
        for (int t = 3; t < 6; t++) {
            check.due("text()", Make.text(x, "near 0;worth 0;"), t);
        }
        check.due("text(), FULL ahead of the FAULT", Make.text(x, "near"), -4);
        check.due("count(6), then THE TAPE stays", x.count(6), 4);
        check.due("count(4)", x.count(4), 6);
    }

    private static void fault(String text, int place) {
        MarketDays x = new MarketDays();
        check.due("text() of '" + text + "'", Make.text(x, text), place < 0 ? 1 : -100 - place);
    }

    private static void faultsOfTokens() {
        check.promise(10, "its FAULTS");
        fault("near 1;worth 2;", -1);
        fault(" \n near 1;worth 2;\n ", -1);
        fault("near(1)*-(2);worth-3;", -1);
        fault("near not 1<2;worth 1=1 or 2<3 and not 4;", -1);
        fault("worth 1;near 1;", 0);
        fault("  worth 1;", 2);
        fault("near 1 2;", 7);
        fault("near 1;worth 1;;", 15);
        fault("near 1;worth 1; near", 16);
        fault("near 1;worth 1; $", 16);
        fault("near", 4);
        fault("near  ", 6);
        fault("near 1", 6);
        fault("near ;", 5);
        fault("near 1 +;", 8);
        fault("near 1 < 2 < 3;", 11);
        fault("near 1 = 2 < 3;", 11);
        fault("near (1 < 2) < 3;worth 1;", -1);
        fault("near 1 or;", 9);
        fault("near or 1;", 5);
        fault("near 1 not 2;", 7);
        fault("near 1 + not 2;", 9);
        fault("near 1 < not 2;", 9);
        fault("near - not 2;", 7);
        fault("near 1 and not not 2;worth 1;", -1);
        fault("near * 2;", 5);
        fault("near + 2;", 5);
        fault("near 1 - - 2 * - - 3;worth 1;", -1);
        fault("near ();", 6);
        fault("near (1;", 7);
        fault("near 1);", 6);
        fault("near (1", 7);
        fault("near 1\t;", 6);
        fault("near 1\0;", 6);
        fault("near 1\u00e9;", 6);
        fault("near 1/2;", 6);
        fault("near 1:2;", 6);
        fault("near 1>2;", 6);
        fault("Near 1;", 0);
        fault("near 1;worth\r1;", 12);
        fault("near 1`;", 6);
        fault("near 1{;", 6);
        fault("near 1,2;", 6);
    }

    private static void faultsOfWords() {
        fault("near hour;", 5);
        fault("near hourss;", 5);
        fault("near tours;", 5);
        fault("near homrs;", 5);
        fault("fear 1;", 0);
        fault("near 1;north 1;", 7);
        fault("near 1 ar 2;", 7);
        fault("near 1 end 2;", 7);
        fault("near got 2;", 5);
        fault("near wise;", 5);
        fault("near sizes < 1;", 5);
        fault("near a;", 5);
        fault("nearhours;", 0);
        fault("near near;", 5);
        fault("near worth;", 5);
        fault("near 1 worth 2;", 7);
        fault("near 1;near 2;", 7);
        fault("near 1;worthday;", 7);
        fault("near 4hours;", 6);
        fault("near hours4;", 10);
        fault("near4;worth4;", -1);
        fault("near not1or2and3;worth 1;", -1);
        fault("near 1 orday;", 7);
        fault("near 9999;worth 0000;", -1);
        fault("near 10000;", 5);
        fault("near 00001;", 5);
        fault("near 1 + 12345;", 9);
        fault("near 1 12345;", 7);
        fault("near hours+size+other+day+want+week;worth hours+size+other+day+want+week;", -1);
    }

    private static void faultsOfDepth() {
        fault("near (((((1)))));worth 1;", -1);
        fault("near ((((((1))))));worth 1;", 10);
        fault("near -----1;worth 1;", -1);
        fault("near ------1;worth 1;", 10);
        fault("near not not not not not 1;worth 1;", -1);
        fault("near not not not not not not 1;worth 1;", 25);
        fault("near not(-(not 1));worth 1;", -1);
        fault("near not(-(not(1)));worth 1;", 14);
        fault("near not(-(not -1));worth 1;", 15);
        fault("near (((((1-1)))));worth 1;", -1);
        fault("near (((((-1)))));worth 1;", 10);
        fault("near (((((not 1)))));worth 1;", 10);
        fault("near (((((1)*(2)))));worth 1;", -1);
        fault("near ((((1)*(2)*-3)));worth 1;", -1);
        fault("near -1-1-1-1-1-1-1--1;worth 1;", -1);
        fault("near not 1 and not 1 and not 1 and not 1 and not 1 and not 1;worth 1;", -1);
        fault("near not (1) and ((((1))));worth(((((1)))));", -1);
        fault("near not not not not (1<-1);worth 1;", 24);
        fault("near not not not not -1*-1<-1;worth 1;", -1);
        fault("near -(-(-1)) * -(-(-1));worth 1;", -1);
        fault("near (1)+(1)+(1)+(1)+(1)+(1)+(1);worth 1;", -1);
    }

    private static void force() {
        check.promise(11, "force");
        MarketDays x = Make.towns(1, 2);
        check.due("force(1)", x.force(1), -2);
        check.due("force(-1)", x.force(-1), -2);
        Make.text(x, "near 1;worth 1;");
        check.due("count(5), a TEXT is not THE RULE yet", x.count(5), 0);
        Make.text(x, "near 2;worth 2;");
        check.due("force(2)", x.force(2), 0);
        check.due("says(0, 1)", x.says(0, 1), 2);
        check.due("force(1)", x.force(1), 2);
        check.due("says(0, 1)", x.says(0, 1), 1);
        check.due("force(3)", x.force(3), -2);
        check.due("count(5)", x.count(5), 1);
        check.due("force(0)", x.force(0), 1);
        check.due("says(0, 1)", x.says(0, 1), 0);
    }

    private static void says() {
        check.promise(12, "says");
        MarketDays x = Make.towns(7, 9, 1);
        x.road(0, 1, 3);
        check.due("says(0, 1), TEXT 0", x.says(0, 1), 1);
        x.road(0, 1, 4);
        check.due("says(0, 1), TEXT 0", x.says(0, 1), 0);
        x.want(0, 1, 0);
        Make.rule(x, "near hours*1000+size*100+other*10+day+want;worth 0;");
        check.due("says(0, 1)", x.says(0, 1), 4000 + 700 + 90);
        check.due("says(1, 0), as told", x.says(1, 0), 4000 + 900 + 70);
        check.due("says(0, 2), no way", x.says(0, 2), 99000 + 700 + 10);
        check.due("says(0, 0)", x.says(0, 0), MarketDays.NO);
        check.due("says(0, 3)", x.says(0, 3), MarketDays.NO);
        check.due("says(3, 0)", x.says(3, 0), MarketDays.NO);
        check.due("says(-1, 0)", x.says(-1, 0), MarketDays.NO);
        Make.rule(x, "near week;worth 0;");
        x.week(3);
        check.due("says(0, 1), the WEEK", x.says(0, 1), 3);
    }

    private static void value(String one, long due) {
        MarketDays x = Make.towns(7, 9);
        Make.rule(x, "near " + one + ";worth 0;");
        check.due("near " + one, x.says(0, 1), due);
    }

    private static void values() {
        check.promise(12, "what an E comes to");
        value("2+3*4", 14);
        value("(2+3)*4", 20);
        value("10-3-2", 5);
        value("-2*3", -6);
        value("2--3", 5);
        value("-(2+3)", -5);
        value("1<2", 1);
        value("2<2", 0);
        value("-1<0", 1);
        value("1+1<2+1", 1);
        value("2=2", 1);
        value("2=3", 0);
        value("not 0", 1);
        value("not 5", 0);
        value("not not 5", 1);
        value("not 1<0", 1);
        value("not 1=2", 1);
        value("0 or 5", 1);
        value("0 or 0", 0);
        value("5 or 5", 1);
        value("5 and 6", 1);
        value("5 and 0", 0);
        value("0 and 5", 0);
        value("1 or 1 and 0", 1);
        value("(1 or 1) and 0", 0);
        value("0 and 0 or 1", 1);
        value("not 1 or 1", 1);
        value("not (1 or 1)", 0);
        value("not 0 and 0", 0);
        value("size-other", -2);
        value("9999*9999*9999", (int) (9999L * 9999L * 9999L));
        value("9999*9999*50+9999*9999", (int) (9999L * 9999L * 51L));
        value("-9999*9999*30-9999*9999", (int) (-9999L * 9999L * 31L));
        value("1-(2-(3-(4-(5-6*7))))", 1 - (2 - (3 - (4 - (5 - 6 * 7)))));
        value("0 or 0 and 0<0+0*(0 or 1 and 0<0+1*(0 or 1 and 0<0+1*(0 or 1 and 0<0+1*(0 or 1 and 0<0+1*(3)))))", 0);
        value("0 or 1 and 0<0+1*(0 or 1 and 0<0+1*(0 or 1 and 0<0+1*(0 or 1 and 0<0+1*(0 or 1 and 0<0+1*(3)))))", 1);
    }

    private static void worthOf() {
        check.promise(13, "worthOf");
        MarketDays x = Make.towns(7, 9);
        x.want(1, 1, 3);
        check.due("TEXT 0", x.worthOf(1, 2, 99, 0), 10);
        check.due("TEXT 0, others", x.worthOf(1, 2, 99, 6), -2);
        check.due("TEXT 0, its WISH", x.worthOf(1, 3, 0, 1), 13);
        check.due("TEXT 0, another one's WISH", x.worthOf(0, 3, 0, 1), 8);
        Make.rule(x, "near 0;worth hours*100-size*10+other;");
        check.due("worthOf(1, 0, 4, 5)", x.worthOf(1, 0, 4, 5), 400 - 90 + 5);
        Make.rule(x, "near 0;worth day*100+want*10+week;");
        check.due("worthOf(1, 3, 0, 0)", x.worthOf(1, 3, 0, 0), 316);
        check.due("worthOf(0, 5, 0, 0)", x.worthOf(0, 5, 0, 0), 506);
        check.due("worthOf(0, 6, 0, 0), no DAY of the WEEK", x.worthOf(0, 6, 0, 0), MarketDays.NO);
        x.week(7);
        check.due("worthOf(0, 6, 0, 0)", x.worthOf(0, 6, 0, 0), 607);
        check.due("worthOf(0, -1, 0, 0)", x.worthOf(0, -1, 0, 0), MarketDays.NO);
        check.due("worthOf(2, 0, 0, 0)", x.worthOf(2, 0, 0, 0), MarketDays.NO);
        check.due("worthOf(-1, 0, 0, 0)", x.worthOf(-1, 0, 0, 0), MarketDays.NO);
        check.due("worthOf(0, 0, -1, 0)", x.worthOf(0, 0, -1, 0), MarketDays.NO);
        check.due("worthOf(0, 0, 100, 0)", x.worthOf(0, 0, 100, 0), MarketDays.NO);
        check.due("worthOf(0, 0, 0, -1)", x.worthOf(0, 0, 0, -1), MarketDays.NO);
        check.due("worthOf(0, 0, 0, 7)", x.worthOf(0, 0, 0, 7), MarketDays.NO);
        Make.rule(x, "near 0;worth (hours-50)*20+1;");
        check.due("within the bounds", x.worthOf(0, 0, 99, 0), 981);
        check.due("-999 at the least", x.worthOf(0, 0, 0, 0), -999);
        check.due("-979", x.worthOf(0, 0, 1, 0), -979);
        Make.rule(x, "near 0;worth (hours-50)*50;");
        check.due("the bound", x.worthOf(0, 0, 70, 0), 999);
        check.due("the bound below", x.worthOf(0, 0, 30, 0), -999);
    }
}
