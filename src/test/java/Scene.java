/** Objects on which calls are tried: each has something in every place that a call could change. */
final class Scene {
    private static final String LAW = "near hours<7;worth 30+day*3-other*2-hours;";
    private static final String HALF_A_TEXT = "near 1;worth 2*hours";

    private Scene() {
    }

    static MarketDays bare() {
        return new MarketDays();
    }

    /** Four TOWNS, one since THE IMAGE, a WEEK of 5, a GIVING of each KIND, a SHEET of each sort and a missing one. */
    static MarketDays busy() {
        MarketDays x = busyWithoutTape();
        Make.tape(x, HALF_A_TEXT);
        return x;
    }

    static MarketDays busyWithoutTape() {
        MarketDays x = Make.towns(5, 9, 14);
        x.road(0, 1, 3);
        x.road(1, 2, 4);
        x.want(0, 0, 63);
        x.want(1, 1, 2);
        x.want(2, 2, 0);
        x.feast(1, 0);
        x.feast(1, 1);
        x.image();
        x.town(20);
        x.road(2, 3, 5);
        x.road(0, 3, 6);
        x.want(0, 1, 3);
        x.want(3, 0, 95);
        x.want(3, 1, 4);
        x.want(3, 2, 1);
        x.week(5);
        x.feast(2, 4);
        Make.rule(x, LAW);
        giveAll(x, 6, 0, 2, 4, 1);
        x.find(3, 0);
        x.round(0, 1, 1, 6, 40);
        Make.row(x, 0, 0, 0, 1, 3, 2);
        Make.row(x, 1, 1, 1, 2, 2, 1, 1);
        Make.row(x, 2, 2, 0, 1, 9, 2, 3, 7, 1);
        return x;
    }

    /** Six TOWNS, ten FEASTS, six TEXTS, twelve GIVINGS, and 155 bytes on THE TAPE. */
    static MarketDays full() {
        MarketDays x = Make.towns(0, 99, 2, 3, 4, 5);
        for (int t = 1; t < 6; t++) {
            x.road(t - 1, t, t);
        }
        x.image();
        x.week(7);
        for (int d = 0; d < 10; d++) {
            x.feast(d % 2 + 1, d % 7);
        }
        for (int t = 1; t < 6; t++) {
            Make.text(x, "near " + t + ";worth 0;");
        }
        x.force(5);
        giveAll(x, 12, 6, 0, 1, 2, 3, 4);
        x.round(0, 1, 1, 6, 40);
        Make.row(x, 0, 0, 6, 5, 4, 3, 2, 1);
        Make.row(x, 1, 1, 0, 1, 2, 3, 4);
        Make.row(x, 2, 2, 0, 1, 2, 3, 4, 8);
        Make.tape(x, HALF_A_TEXT + " ".repeat(155 - HALF_A_TEXT.length()));
        return x;
    }

    /** As many GIVINGS of the same numbers, by turns of each KIND; SHEET 3 is missing then. */
    private static void giveAll(MarketDays x, int many, int... numbers) {
        Make.row(x, 3, 2, numbers);
        for (int g = 0; g < many; g++) {
            x.giving(g % 6, 3);
        }
        x.sheet(3, -1, 0);
    }

    /** Room for three bytes on THE TAPE, and a TEXT that only wants its end. */
    static MarketDays longTape() {
        MarketDays x = busyWithoutTape();
        Make.tape(x, HALF_A_TEXT + " ".repeat(157 - HALF_A_TEXT.length()));
        return x;
    }
}
