import java.util.ArrayList;
import java.util.List;

/** Looks at all that can be seen of a MarketDays, by some 350 calls that spoil it: two that look alike are alike. */
final class Look {
    /** SHEETS are looked at as far as those of Scene go. */
    private static final int LEAST_CELLS = 4, MOST_CELLS = 7;

    private final MarketDays x;
    private final int towns;
    private final int givings;
    private final List<String> seen = new ArrayList<>();

    private Look(MarketDays x) {
        this.x = x;
        this.towns = x.count(0);
        this.givings = x.count(3);
    }

    static List<String> at(MarketDays x) {
        Look look = new Look(x);
        look.found();
        look.land();
        look.givings();
        look.law();
        look.roads();
        look.sheets();
        look.tape();
        look.image();
        return look.seen;
    }

    /** The first answer that is not alike, told both ways; empty, if all are. */
    static String difference(List<String> one, List<String> other) {
        for (int i = 0; i < Math.min(one.size(), other.size()); i++) {
            if (!one.get(i).equals(other.get(i))) {
                return one.get(i) + " and not: " + other.get(i);
            }
        }
        return one.size() == other.size() ? "" : one.size() + " calls and not " + other.size();
    }

    private void tell(String call, long answer) {
        seen.add(call + " answers " + answer);
    }

    private void found() {
        for (int i = 0; i <= 7; i++) {
            tell("foundDay(" + i + ")", x.foundDay(i));
            tell("roundTold(" + i + ")", x.roundTold(i));
        }
    }

    private void land() {
        for (int what = 0; what < 7; what++) {
            tell("count(" + what + ")", x.count(what));
        }
        for (int t = 0; t < towns; t++) {
            for (int what = 0; what < 4; what++) {
                tell("townTold(" + t + ", " + what + ")", x.townTold(t, what));
            }
            for (int b = 0; b < t; b++) {
                tell("hours(" + t + ", " + b + ")", x.hours(t, b));
            }
        }
    }

    private void givings() {
        for (int g = 0; g < givings; g++) {
            for (int what = 0; what < 3; what++) {
                tell("givingTold(" + g + ", " + what + ")", x.givingTold(g, what));
            }
            for (int t = g % 2; t < towns; t += 2) {
                markets(g, t);
            }
            tell("judge(" + g + ", 1, -1)", x.judge(g, 1, -1));
        }
    }

    private void markets(int g, int t) {
        int w = (g + t) % 3;
        tell("marketOf(" + g + ", " + t + ", " + w + ")", x.marketOf(g, t, w));
    }

    private void law() {
        for (int t = 1; t < towns; t++) {
            tell("says(0, " + t + ")", x.says(0, t));
            tell("worthOf(" + t + ", 1, 2, 3)", x.worthOf(t, 1, 2, 3));
        }
        tell("least()", x.least());
        tell("knot()", x.knot());
    }

    private void roads() {
        for (int a = 0; a < towns; a++) {
            for (int b = 0; b < a; b++) {
                tell("road(" + a + ", " + b + ", 0)", x.road(a, b, 0));
            }
        }
    }

    /** None of these calls changes a SHEET; then the numbers of each are looked at by the last one. */
    private void sheets() {
        for (int s = 0; s < 4; s++) {
            for (int sort = 0; sort < 3; sort++) {
                tell("roads(" + s + ", " + sort + ", 0, 0)", x.roads(s, sort, 0, 0));
            }
            for (int n = LEAST_CELLS; n <= MOST_CELLS + 1; n++) {
                tell("copy(" + s + ", 0, " + s + ", 0, " + n + ")", x.copy(s, 0, s, 0, n));
            }
        }
        for (int s = 0; s < 3; s++) {
            numbers(s);
        }
    }

    /** SHEETS tell no number: so each one becomes the hours of a ROAD. */
    private void numbers(int s) {
        for (int sort = 0; sort < 3; sort++) {
            if (x.roads(s, sort, 0, 0) == 0) {
                Make.row(x, 3, sort, 0, 1, 0);
                for (int i = 0; i < MOST_CELLS && x.copy(s, i, 3, 2, 1) == 1; i++) {
                    x.roads(3, sort, 0, 1);
                    tell("number " + i + " of SHEET " + s, x.road(0, 1, 0));
                }
            }
        }
    }

    private void tape() {
        tell("feed(;)", x.feed(';', 1));
        int t = x.text();
        tell("text()", t);
        for (int rule : new int[] {t, 1, 0}) {
            tell("force(" + rule + ")", x.force(rule));
            tell("worthOf(0, 0, 33, 0)", x.worthOf(0, 0, 33, 0));
        }
    }

    private void image() {
        tell("back()", x.back());
        land();
        for (int t = 0; t < towns; t++) {
            markets(0, t);
        }
    }
}
