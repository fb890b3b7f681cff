import java.util.Arrays;

/**
 * Market days: towns on roads, givings of days, what bars and what it is worth, what can be found,
 * and pedlars' rounds. shared/DOC.md tells every promise; its words in capitals are used here too.
 */
public final class MarketDays {
    public static final int NONE = -1, BAD = -2, STATE = -3, FULL = -4;
    public static final long NO = -4611686018427387904L;

    private static final int NONE_SUCH = -5, NOT_AS_TOLD = -7;
    private static final int NOTHING_THERE = -11, OUTSIDE = -12, OTHER_SORT = -13, BELOW_ZERO = -14;
    private static final int TOO_FAR = -20, FAULTY = -100, NOT_HOME = -100;

    private static final int MOST_TOWNS = 6, MOST_SIZE = 99, MOST_DAYS = 7, LEAST_DAYS = 2;
    private static final int WEEKS = 100, MOST_FEASTS = 10, LONGEST_ROAD = 50, FAR = 99;
    private static final int MOST_BYTES = 160, MOST_TEXTS = 6, MOST_GIVINGS = 12;
    private static final int MOST_SHEETS = 4, MOST_CELLS = 40, SORTS = 3, MOST_TOLD_ROADS = 13;
    private static final int LONGEST_STRIDE = 50, MOST_PACK = 40;
    private static final int AIM_FIRST = 1, AIM_BEST = 2, AIM_NEAREST = 3;
    private static final int ALL_DAYS = 127, FIRST_WEEK = 6;
    private static final int AS_TOWN = 6;
    private static final String FIRST_RULE = "near hours < 4 ; worth 10 - other * 2 + want * 5 ;";

    private final Land land = new Land();
    private final Land kept = new Land();
    private boolean imageKept = false;
    private final Tape tape = new Tape();
    private final Law law = new Law(land);
    private final Giving[] givings = new Giving[MOST_GIVINGS];
    private int givingsMade = 0;
    private final Fair fair = new Fair(land, law);
    private final Finder finder = new Finder(land, law);
    private final Pedlar pedlar = new Pedlar(land, fair);
    private final Sheet[] sheets = new Sheet[MOST_SHEETS];

    public MarketDays() {
        for (int s = 0; s < MOST_SHEETS; s++) {
            sheets[s] = new Sheet();
        }
        for (int i = 0; i < FIRST_RULE.length(); i++) {
            tape.put(FIRST_RULE.charAt(i));
        }
        law.learn(tape.readRule());
    }

    // ---- towns, roads

    public int town(int big) {
        if (big < 0 || big > MOST_SIZE) {
            return BAD;
        }
        return land.settle(big) ? land.towns - 1 : FULL;
    }

    public int road(int a, int b, int hours) {
        if (!land.hasTown(a) || !land.hasTown(b)) {
            return NONE;
        }
        if (a == b || hours < 0 || hours > LONGEST_ROAD) {
            return BAD;
        }
        return land.lay(a, b, hours);
    }

    public int hours(int a, int b) {
        return land.hasTown(a) && land.hasTown(b) ? land.hoursBetween(a, b) : NONE;
    }

    public int week(int n) {
        if (n < LEAST_DAYS || n > MOST_DAYS) {
            return BAD;
        }
        int before = land.days;
        land.days = n;
        return before;
    }

    public int want(int t, int what, int v) {
        if (!land.hasTown(t)) {
            return NONE_SUCH;
        }
        if (!mayWant(t, what, v)) {
            return NOT_AS_TOLD;
        }
        int[] row = what == 0 ? land.allowed : what == 1 ? land.wishes : land.leaders;
        int before = row[t];
        row[t] = v;
        return before;
    }

    private boolean mayWant(int t, int what, int v) {
        switch (what) {
            case 0:
                return v >= 0 && v <= ALL_DAYS;
            case 1:
                return v >= NONE && v < MOST_DAYS;
            case 2:
                return v == NONE || land.hasTown(v) && v != t;
            default:
                return false;
        }
    }

    public int townTold(int t, int what) {
        if (!land.hasTown(t)) {
            return NONE_SUCH;
        }
        switch (what) {
            case 0:
                return land.sizes[t];
            case 1:
                return land.allowed[t];
            case 2:
                return land.wishes[t];
            case 3:
                return land.leaders[t];
            default:
                return NOT_AS_TOLD;
        }
    }

    public int feast(int w, int d) {
        if (!isWeek(w) || d < 0 || d >= MOST_DAYS) {
            return BAD;
        }
        return land.hold(w, d) ? land.feasts : FULL;
    }

    // ---- rules

    public int feed(long w, int n) {
        if (n < 1 || n > 8) {
            return BAD;
        }
        if (tape.size + n > MOST_BYTES) {
            return FULL;
        }
        for (int i = n - 1; i >= 0; i--) {
            tape.put((int) (w >> 8 * i) & 255);
        }
        return tape.size;
    }

    public int text() {
        if (law.learnt == MOST_TEXTS) {
            return FULL;
        }
        Rule rule = tape.readRule();
        if (rule == null) {
            return FAULTY - tape.fault;
        }
        law.learn(rule);
        return law.learnt - 1;
    }

    public int force(int t) {
        if (t < 0 || t >= law.learnt) {
            return BAD;
        }
        int before = land.rule;
        land.rule = t;
        return before;
    }

    public long says(int a, int b) {
        if (!land.hasTown(a) || !land.hasTown(b) || a == b) {
            return NO;
        }
        return law.nearSays(a, b, land.days);
    }

    public long worthOf(int t, int d, int hours, int others) {
        if (!land.hasTown(t) || d < 0 || d >= land.days) {
            return NO;
        }
        if (hours < 0 || hours > FAR || others < 0 || others > MOST_TOWNS) {
            return NO;
        }
        return law.worthOfDay(t, d, hours, others);
    }

    // ---- givings

    public int giving(int kind, int s) {
        Sheet sheet = sheetAt(s);
        if (kind < 0 || kind >= Giving.KINDS || sheet == null) {
            return BAD;
        }
        if (sheet.isMissing()) {
            return NOTHING_THERE;
        }
        if (sheet.size != land.towns || !mayTell(kind, sheet)) {
            return BAD;
        }
        if (givingsMade >= MOST_GIVINGS) {
            return FULL;
        }
        givings[givingsMade] = new Giving(kind, Arrays.copyOf(sheet.cells, land.towns));
        givingsMade++;
        return givingsMade - 1;
    }

    private boolean mayTell(int kind, Sheet sheet) {
        for (int i = 0; i < sheet.size; i++) {
            if (!Giving.mayTell(kind, sheet.cells[i], land.days)) {
                return false;
            }
        }
        return true;
    }

    public int marketOf(int g, int t, int w) {
        Giving giving = givingAt(g);
        if (giving == null || !land.hasTown(t) || !isWeek(w)) {
            return NONE_SUCH;
        }
        return giving.marketIn(land, t, w);
    }

    public int bar(int g, int w) {
        Giving giving = givingAt(g);
        if (giving == null || !isWeek(w)) {
            return NONE_SUCH;
        }
        fair.open(giving, w);
        return fair.firstBar();
    }

    public int lawful(int g, int w) {
        Giving giving = givingAt(g);
        if (giving == null || !isWeek(w)) {
            return NONE_SUCH;
        }
        int good = 0;
        for (int i = 0; i <= w; i++) {
            fair.open(giving, i);
            if (fair.firstBar() == NONE) {
                good++;
            }
        }
        return good;
    }

    public long judge(int g, int w, int t) {
        Giving giving = givingAt(g);
        if (giving == null || !isWeek(w) || t != NONE && !land.hasTown(t)) {
            return NO;
        }
        fair.open(giving, w);
        return t == NONE ? fair.worthOfAllBut(NONE) : fair.worthOfTown(t);
    }

    public int givingTold(int g, int what) {
        Giving giving = givingAt(g);
        if (giving == null) {
            return NONE_SUCH;
        }
        switch (what) {
            case 0:
                return giving.kind;
            case 1:
                return giving.numbers.length;
            case 2:
                return giving.feastsMoveIt() ? 1 : 0;
            default:
                return NOT_AS_TOLD;
        }
    }

    // ---- what is found

    public int can() {
        return finder.countWays();
    }

    public long find(int aims, int g) {
        Giving giving = givingAt(g);
        if (aims < AIM_FIRST || aims > AIM_NEAREST || aims == AIM_NEAREST && giving == null) {
            return NO;
        }
        return finder.seek(aims, giving);
    }

    public int foundDay(int t) {
        return t >= 0 && t < finder.foundTowns ? finder.found[t] : NONE;
    }

    public int least() {
        return finder.fewestDays();
    }

    public int knot() {
        return finder.smallestKnot();
    }

    public int room(int g, int t, int w) {
        Giving giving = givingAt(g);
        if (giving == null || !land.hasTown(t) || !isWeek(w)) {
            return NONE_SUCH;
        }
        fair.open(giving, w);
        return fair.roomOf(t);
    }

    public long hurt(int g, int t, int w) {
        Giving giving = givingAt(g);
        if (giving == null || !land.hasTown(t) || !isWeek(w)) {
            return NO;
        }
        fair.open(giving, w);
        int with = fair.worthOfAllBut(t);
        fair.close(t);
        return fair.worthOfAllBut(t) - with;
    }

    // ---- rounds

    public int round(int g, int w, int home, int stride, int pack) {
        Giving giving = givingAt(g);
        if (!isJourney(giving, w, home, stride) || pack < 0 || pack > MOST_PACK) {
            return BAD;
        }
        fair.open(giving, w);
        return pedlar.findRound(home, stride, pack);
    }

    public int roundTold(int d) {
        return d >= 0 && d < pedlar.roundDays ? pedlar.stops[d] : NONE;
    }

    public int walk(int g, int w, int home, int stride, int s) {
        Giving giving = givingAt(g);
        Sheet sheet = sheetAt(s);
        if (!isJourney(giving, w, home, stride) || sheet == null) {
            return BAD;
        }
        if (sheet.isMissing()) {
            return NOTHING_THERE;
        }
        if (sheet.size != land.days || !holdsTowns(sheet)) {
            return BAD;
        }
        fair.open(giving, w);
        return pedlar.follow(sheet, home, stride);
    }

    private boolean isJourney(Giving giving, int w, int home, int stride) {
        return giving != null && isWeek(w) && land.hasTown(home) && stride >= 0 && stride <= LONGEST_STRIDE;
    }

    private boolean holdsTowns(Sheet sheet) {
        for (int i = 0; i < sheet.size; i++) {
            if (!land.hasTown(sheet.cells[i])) {
                return false;
            }
        }
        return true;
    }

    public int count(int what) {
        switch (what) {
            case 0:
                return land.towns;
            case 1:
                return land.days;
            case 2:
                return land.feasts;
            case 3:
                return givingsMade;
            case 4:
                return law.learnt;
            case 5:
                return land.rule;
            case 6:
                return tape.size;
            default:
                return BAD;
        }
    }

    public int image() {
        kept.become(land);
        imageKept = true;
        return land.towns;
    }

    public int back() {
        if (!imageKept) {
            return STATE;
        }
        land.become(kept);
        return land.towns;
    }

    // ---- the host

    public int sheet(int s, int sort, int n) {
        Sheet sheet = sheetAt(s);
        if (sheet == null || sort < NONE || sort >= SORTS || sort != NONE && n > MOST_CELLS) {
            return BAD;
        }
        if (sort != NONE && n < 0) {
            return BELOW_ZERO;
        }
        sheet.become(sort, n);
        return 1;
    }

    public int cell(int s, int i, int v) {
        Sheet sheet = sheetAt(s);
        if (sheet == null) {
            return BAD;
        }
        if (sheet.isMissing()) {
            return NOTHING_THERE;
        }
        return sheet.write(i, v) ? 1 : OUTSIDE;
    }

    public int copy(int s, int i, int other, int j, int n) {
        Sheet from = sheetAt(s);
        Sheet to = sheetAt(other);
        if (from == null || to == null) {
            return BAD;
        }
        if (from.isMissing() || to.isMissing()) {
            return NOTHING_THERE;
        }
        if (from.sort != to.sort) {
            return OTHER_SORT;
        }
        if (!from.spans(i, n) || !to.spans(j, n)) {
            return OUTSIDE;
        }
        System.arraycopy(from.cells, i, to.cells, j, n);
        return n;
    }

    public int roads(int s, int sort, int at, int n) {
        Sheet sheet = sheetAt(s);
        if (sheet == null || sort < 0 || sort >= SORTS || n < 0 || n > MOST_TOLD_ROADS) {
            return BAD;
        }
        if (sheet.isMissing()) {
            return NOTHING_THERE;
        }
        if (sheet.sort != sort) {
            return OTHER_SORT;
        }
        int told = 0;
        for (int k = 0; k < n; k++) {
            long place = at + 3L * k;
            if (!sheet.spans(place, 3)) {
                return OUTSIDE;
            }
            int p = (int) place;
            if (road(sheet.cells[p], sheet.cells[p + 1], sheet.cells[p + 2]) >= 0) {
                told++;
            }
        }
        return told;
    }

    public int taken(int i, int kind) {
        if (kind < 0 || kind > AS_TOWN) {
            return BAD;
        }
        if (i < 0 || i >= MOST_TOWNS + MOST_GIVINGS) {
            return OUTSIDE;
        }
        return i < MOST_TOWNS ? takenTown(i, kind) : takenGiving(i - MOST_TOWNS, kind);
    }

    private int takenTown(int t, int kind) {
        if (!land.hasTown(t)) {
            return NOTHING_THERE;
        }
        return kind == AS_TOWN ? land.sizes[t] : OTHER_SORT;
    }

    private int takenGiving(int g, int kind) {
        Giving giving = givingAt(g);
        if (giving == null) {
            return NOTHING_THERE;
        }
        return kind != AS_TOWN && Giving.isA(giving.kind, kind) ? g : OTHER_SORT;
    }

    private Giving givingAt(int g) {
        return g >= 0 && g < givingsMade ? givings[g] : null;
    }

    private Sheet sheetAt(int s) {
        return s >= 0 && s < MOST_SHEETS ? sheets[s] : null;
    }

    private static boolean isWeek(int w) {
        return w >= 0 && w < WEEKS;
    }

    private static boolean hasBit(int bits, int i) {
        return (bits >> i & 1) != 0;
    }

    /** LEAST asks about WEEKS that the land has not, so the number of days is an argument here. */
    private static int dayAfter(int d, int days) {
        return d + 1 < days ? d + 1 : 0;
    }

    private static int dayBefore(int d, int days) {
        return d > 0 ? d - 1 : days - 1;
    }

    /** TOWNS, ROADS, the WEEK, FEASTS and which TEXT is THE RULE: an IMAGE keeps all but SIZES, which never change. */
    private static final class Land {
        final int[] sizes = new int[MOST_TOWNS];
        final int[] allowed = new int[MOST_TOWNS];
        final int[] wishes = new int[MOST_TOWNS];
        /** The TOWN that each one must be BEHIND. */
        final int[] leaders = new int[MOST_TOWNS];
        private final int[][] laid = new int[MOST_TOWNS][MOST_TOWNS];
        private final int[][] between = new int[MOST_TOWNS][MOST_TOWNS];
        private final int[] feastWeeks = new int[MOST_FEASTS];
        private final int[] feastDays = new int[MOST_FEASTS];
        int towns = 0;
        int days = FIRST_WEEK;
        int feasts = 0;
        int rule = 0;

        boolean hasTown(int t) {
            return t >= 0 && t < towns;
        }

        boolean settle(int size) {
            if (towns >= MOST_TOWNS) {
                return false;
            }
            sizes[towns] = size;
            allowed[towns] = ALL_DAYS;
            wishes[towns] = NONE;
            leaders[towns] = NONE;
            towns++;
            measure();
            return true;
        }

        int lay(int a, int b, int length) {
            int before = laid[a][b];
            laid[a][b] = length;
            laid[b][a] = length;
            measure();
            return before;
        }

        int hoursBetween(int a, int b) {
            return between[a][b];
        }

        boolean hold(int w, int d) {
            if (feasts >= MOST_FEASTS) {
                return false;
            }
            feastWeeks[feasts] = w;
            feastDays[feasts] = d;
            feasts++;
            return true;
        }

        int movedByFeasts(int market, int w) {
            int moved = market;
            for (int i = 0; i < feasts; i++) {
                int d = feastDays[i];
                if (feastWeeks[i] == w && d < days && hasBit(moved, d)) {
                    moved = moved & ~(1 << d) | 1 << dayAfter(d, days);
                }
            }
            return moved;
        }

        int daysOn(int d, int by) {
            return days > 0 ? (d + by) % days : 0;
        }

        /** Serves keeping an IMAGE and going back to it: TOWNS that the other has not stay, cut off from its own. */
        void become(Land other) {
            for (int a = 0; a < other.towns; a++) {
                allowed[a] = other.allowed[a];
                wishes[a] = other.wishes[a];
                leaders[a] = other.leaders[a];
                for (int b = 0; b < MOST_TOWNS; b++) {
                    int length = b < other.towns ? other.laid[a][b] : 0;
                    laid[a][b] = length;
                    laid[b][a] = length;
                }
            }
            for (int i = 0; i < other.feasts; i++) {
                feastWeeks[i] = other.feastWeeks[i];
                feastDays[i] = other.feastDays[i];
            }
            towns = Math.max(towns, other.towns);
            days = other.days;
            feasts = other.feasts;
            rule = other.rule;
            measure();
        }

        private void measure() {
            for (int a = 0; a < towns; a++) {
                for (int b = 0; b < towns; b++) {
                    between[a][b] = a == b ? 0 : laid[a][b] == 0 ? FAR : laid[a][b];
                }
            }
            for (int via = 0; via < towns; via++) {
                for (int a = 0; a < towns; a++) {
                    for (int b = 0; b < towns; b++) {
                        between[a][b] = Math.min(between[a][b], between[a][via] + between[via][b]);
                    }
                }
            }
        }
    }

    /** A TEXT, each E of it as steps for a stack: a number not below 0 is itself, others as named here. */
    private static final class Rule {
        /** The value of a name stands at place -1 - its step. */
        static final int HOURS = -1, SIZE = -2, OTHER = -3, DAY = -4, WANT = -5, WEEK = -6;
        static final int NAMES = 6;
        static final int OR = -7, AND = -8, LESS = -9, SAME = -10, PLUS = -11, MINUS = -12, TIMES = -13;
        static final int NOT = -14, NEGATE = -15;
        /** Five open ones, and in each of the six E at most a number for or, and, <, + and *. */
        static final int STACK = 40;

        final int[] near;
        final int[] worth;

        Rule(int[] near, int[] worth) {
            this.near = near;
            this.worth = worth;
        }

        static int run(int[] steps, int[] names, int[] stack) {
            int high = 0;
            for (int i = 0; i < steps.length; i++) {
                int step = steps[i];
                if (step >= WEEK) {
                    if (high < STACK) {
                        stack[high] = step >= 0 ? step : names[-1 - step];
                        high++;
                    }
                } else if (step <= NOT) {
                    if (high >= 1) {
                        int one = stack[high - 1];
                        stack[high - 1] = step == NEGATE ? -one : one == 0 ? 1 : 0;
                    }
                } else if (high >= 2) {
                    high--;
                    stack[high - 1] = join(step, stack[high - 1], stack[high]);
                }
            }
            return high > 0 ? stack[0] : 0;
        }

        private static int join(int step, int a, int b) {
            switch (step) {
                case OR:
                    return a != 0 || b != 0 ? 1 : 0;
                case AND:
                    return a != 0 && b != 0 ? 1 : 0;
                case LESS:
                    return a < b ? 1 : 0;
                case SAME:
                    return a == b ? 1 : 0;
                case PLUS:
                    return a + b;
                case MINUS:
                    return a - b;
                default:
                    return a * b;
            }
        }
    }

    /** THE TAPE, and the reading of a TEXT from it. */
    private static final class Tape {
        /** Tokens: a sign is its byte, a name and a key that works on numbers its step, others these. */
        private static final int END = 256, BROKEN = 257, NUMBER = 258, NEAR = 259, WORTH = 260;
        private static final int MOST_DIGITS = 4, MOST_OPEN = 5;

        private final int[] bytes = new int[MOST_BYTES];
        int size = 0;
        int fault = NONE;
        private int at = 0;
        private int start = 0;
        private int token = END;
        private int number = 0;
        private int open = 0;
        private final int[] steps = new int[MOST_BYTES];
        private int written = 0;

        void put(int b) {
            if (size < MOST_BYTES) {
                bytes[size] = b;
                size++;
            }
        }

        /** Empties THE TAPE; null and the place of the FAULT in fault, if there is one. */
        Rule readRule() {
            fault = NONE;
            at = 0;
            open = 0;
            written = 0;
            advance();
            expect(NEAR);
            readEither();
            expect(';');
            int middle = written;
            expect(WORTH);
            readEither();
            expect(';');
            if (token != END) {
                fail();
            }
            size = 0;
            if (fault != NONE) {
                return null;
            }
            return new Rule(Arrays.copyOfRange(steps, 0, middle), Arrays.copyOfRange(steps, middle, written));
        }

        private void readEither() {
            readBoth();
            for (int i = 0; i < MOST_BYTES && token == Rule.OR; i++) {
                advance();
                readBoth();
                write(Rule.OR);
            }
        }

        private void readBoth() {
            readNot();
            for (int i = 0; i < MOST_BYTES && token == Rule.AND; i++) {
                advance();
                readNot();
                write(Rule.AND);
            }
        }

        private void readNot() {
            if (token == Rule.NOT) {
                if (opens()) {
                    advance();
                    readNot();
                    open--;
                    write(Rule.NOT);
                }
                return;
            }
            readSum();
            if (token == '<' || token == '=') {
                int step = token == '<' ? Rule.LESS : Rule.SAME;
                advance();
                readSum();
                write(step);
            }
        }

        private void readSum() {
            readTerm();
            for (int i = 0; i < MOST_BYTES && (token == '+' || token == '-'); i++) {
                int step = token == '+' ? Rule.PLUS : Rule.MINUS;
                advance();
                readTerm();
                write(step);
            }
        }

        private void readTerm() {
            readOne();
            for (int i = 0; i < MOST_BYTES && token == '*'; i++) {
                advance();
                readOne();
                write(Rule.TIMES);
            }
        }

        private void readOne() {
            if (token == NUMBER) {
                write(number);
                advance();
            } else if (token <= Rule.HOURS && token >= Rule.WEEK) {
                write(token);
                advance();
            } else if (token == '-' && opens()) {
                advance();
                readOne();
                open--;
                write(Rule.NEGATE);
            } else if (token == '(' && opens()) {
                advance();
                readEither();
                expect(')');
                open--;
            } else {
                fail();
            }
        }

        private boolean opens() {
            if (open >= MOST_OPEN) {
                fail();
                return false;
            }
            open++;
            return true;
        }

        private void expect(int wanted) {
            if (token == wanted) {
                advance();
            } else {
                fail();
            }
        }

        /** No token can stand behind a FAULT: so every reader ends there, and the first FAULT stays. */
        private void fail() {
            if (fault == NONE) {
                fault = start;
            }
            token = BROKEN;
        }

        private void write(int step) {
            if (written < MOST_BYTES) {
                steps[written] = step;
                written++;
            }
        }

        private void advance() {
            while (at < size && (bytes[at] == ' ' || bytes[at] == '\n')) {
                at++;
            }
            start = at;
            if (at >= size) {
                token = END;
            } else if (isLetter(bytes[at])) {
                readWord();
            } else if (isDigit(bytes[at])) {
                readNumber();
            } else {
                token = isSign(bytes[at]) ? bytes[at] : BROKEN;
                at++;
            }
        }

        private void readNumber() {
            number = 0;
            while (at < size && isDigit(bytes[at])) {
                number = number * 10 + bytes[at] - '0';
                at++;
            }
            token = at - start > MOST_DIGITS ? BROKEN : NUMBER;
        }

        private void readWord() {
            while (at < size && isLetter(bytes[at])) {
                at++;
            }
            token = spells("near") ? NEAR
                : spells("worth") ? WORTH
                : spells("or") ? Rule.OR
                : spells("and") ? Rule.AND
                : spells("not") ? Rule.NOT
                : spells("hours") ? Rule.HOURS
                : spells("size") ? Rule.SIZE
                : spells("other") ? Rule.OTHER
                : spells("day") ? Rule.DAY
                : spells("want") ? Rule.WANT
                : spells("week") ? Rule.WEEK
                : BROKEN;
        }

        private boolean spells(String word) {
            if (at - start != word.length()) {
                return false;
            }
            for (int i = 0; i < word.length() && start + i < size; i++) {
                if (bytes[start + i] != word.charAt(i)) {
                    return false;
                }
            }
            return true;
        }

        private static boolean isLetter(int b) {
            return b >= 'a' && b <= 'z';
        }

        private static boolean isDigit(int b) {
            return b >= '0' && b <= '9';
        }

        private static boolean isSign(int b) {
            return b == '(' || b == ')' || b == ';' || b == '+' || b == '-' || b == '*' || b == '<' || b == '=';
        }
    }

    /** The TEXTS, and what THE RULE says of the land. */
    private static final class Law {
        static final int MOST_WORTH = 999;

        private final Land land;
        private final Rule[] texts = new Rule[MOST_TEXTS];
        int learnt = 0;
        private final int[] names = new int[Rule.NAMES];
        private final int[] stack = new int[Rule.STACK];

        Law(Land land) {
            this.land = land;
        }

        void learn(Rule rule) {
            if (learnt < MOST_TEXTS) {
                texts[learnt] = rule;
                learnt++;
            }
        }

        private Rule theRule() {
            return land.rule >= 0 && land.rule < learnt ? texts[land.rule] : null;
        }

        int nearSays(int a, int b, int days) {
            Rule rule = theRule();
            if (rule == null) {
                return 0;
            }
            name(land.hoursBetween(a, b), land.sizes[a], land.sizes[b], 0, 0, days);
            return Rule.run(rule.near, names, stack);
        }

        int worthOfDay(int t, int d, int far, int others) {
            Rule rule = theRule();
            if (rule == null) {
                return 0;
            }
            name(far, land.sizes[t], others, d, land.wishes[t] == d ? 1 : 0, land.days);
            return Math.max(-MOST_WORTH, Math.min(MOST_WORTH, Rule.run(rule.worth, names, stack)));
        }

        private void name(int far, int size, int other, int day, int want, int week) {
            names[0] = far;
            names[1] = size;
            names[2] = other;
            names[3] = day;
            names[4] = want;
            names[5] = week;
        }
    }

    /** A GIVING of any KIND: KINDS differ by the switches here alone. */
    private static final class Giving {
        static final int PLAIN = 0, PART = 1, TWICE = 2, TURN = 3, SEASON = 4, TOLD = 5, KINDS = 6;
        private static final int MOST_PART = 7;

        final int kind;
        final int[] numbers;

        Giving(int kind, int[] numbers) {
            this.kind = kind;
            this.numbers = numbers;
        }

        static boolean isA(int kind, int other) {
            return other == kind || other == PLAIN
                || other == PART && kind == TOLD
                || other == TURN && kind == SEASON;
        }

        static boolean mayTell(int kind, int number, int days) {
            return number >= 0 && (isA(kind, PART) ? number <= MOST_PART : number < days);
        }

        boolean feastsMoveIt() {
            return kind != TOLD;
        }

        /** The number told for a TOWN; NONE for those that came since. */
        int numberOf(int t) {
            return t >= 0 && t < numbers.length ? numbers[t] : NONE;
        }

        int marketIn(Land land, int t, int w) {
            int market = daysIn(land, t, w);
            return feastsMoveIt() ? land.movedByFeasts(market, w) : market;
        }

        private int daysIn(Land land, int t, int w) {
            int d = numberOf(t);
            if (d < 0 || d >= land.days) {
                return 0;
            }
            switch (kind) {
                case TWICE:
                    return 1 << d | 1 << land.daysOn(d, land.days / 2);
                case TURN:
                    return 1 << land.daysOn(d, w);
                case SEASON:
                    return 1 << land.daysOn(d, w % 2 == 0 ? w : w + 2);
                default:
                    return 1 << d;
            }
        }

        /** WORTH of a TOWN whose DAYS are worth sum all together. */
        int worthBy(int sum, boolean hasDay) {
            switch (kind) {
                case PART:
                    return hasDay ? sum : -1;
                case TOLD:
                    return hasDay ? sum + 1 : 0;
                case TWICE:
                    return sum / 2;
                case TURN:
                case SEASON:
                    return sum - 2;
                default:
                    return sum;
            }
        }
    }

    /** All MARKETS by one GIVING in one WEEK. */
    private static final class Fair {
        private final Land land;
        private final Law law;
        /** DAYS of each TOWN, as bits. */
        private final int[] markets = new int[MOST_TOWNS];
        private Giving giving = null;

        Fair(Land land, Law law) {
            this.land = land;
            this.law = law;
        }

        void open(Giving by, int w) {
            giving = by;
            for (int t = 0; t < land.towns; t++) {
                markets[t] = by.marketIn(land, t, w);
            }
        }

        void close(int t) {
            markets[t] = 0;
        }

        boolean isAt(int t, int d) {
            return hasBit(markets[t], d);
        }

        int firstBar() {
            for (int a = 0; a < land.towns; a++) {
                if (barsItself(a)) {
                    return 11 * a;
                }
                for (int b = a + 1; b < land.towns; b++) {
                    if (bars(a, b)) {
                        return 10 * a + b;
                    }
                }
            }
            return NONE;
        }

        private boolean barsItself(int t) {
            return (markets[t] & ~land.allowed[t]) != 0;
        }

        /** Whether a and a greater b do: near is asked of the lesser TOWN first. */
        private boolean bars(int a, int b) {
            return (markets[a] & markets[b]) != 0 && law.nearSays(a, b, land.days) != 0
                || land.leaders[a] == b && missesToFollow(a, b)
                || land.leaders[b] == a && missesToFollow(b, a);
        }

        private boolean missesToFollow(int t, int leader) {
            if (markets[t] == 0 || markets[leader] == 0) {
                return false;
            }
            for (int d = 0; d < land.days; d++) {
                if (isAt(leader, d) && isAt(t, dayAfter(d, land.days))) {
                    return false;
                }
            }
            return true;
        }

        int roomOf(int t) {
            int was = markets[t];
            int fit = 0;
            for (int d = 0; d < land.days; d++) {
                markets[t] = 1 << d;
                if (!barsItself(t) && !barsAny(t)) {
                    fit |= 1 << d;
                }
            }
            markets[t] = was;
            return fit;
        }

        private boolean barsAny(int t) {
            for (int other = 0; other < land.towns; other++) {
                if (other != t && bars(Math.min(t, other), Math.max(t, other))) {
                    return true;
                }
            }
            return false;
        }

        int worthOfAllBut(int out) {
            int sum = 0;
            for (int t = 0; t < land.towns; t++) {
                if (t != out) {
                    sum += worthOfTown(t);
                }
            }
            return sum;
        }

        int worthOfTown(int t) {
            if (giving == null) {
                return 0;
            }
            int sum = 0;
            for (int d = 0; d < land.days; d++) {
                if (isAt(t, d)) {
                    sum += law.worthOfDay(t, d, hoursToMarket(t, dayBefore(d, land.days)), othersAt(t, d));
                }
            }
            return giving.worthBy(sum, markets[t] != 0);
        }

        private int othersAt(int t, int d) {
            int others = 0;
            for (int other = 0; other < land.towns; other++) {
                if (other != t && isAt(other, d)) {
                    others++;
                }
            }
            return others;
        }

        private int hoursToMarket(int t, int d) {
            int fewest = FAR;
            for (int other = 0; other < land.towns; other++) {
                if (other != t && isAt(other, d)) {
                    fewest = Math.min(fewest, land.hoursBetween(t, other));
                }
            }
            return fewest;
        }
    }

    /** Goes one by one through all LAWFUL ways to give each of some TOWNS one DAY, the first one first. */
    private static final class Ways {
        private static final int MOST_STEPS = 1000000;

        private final Land land;
        private final Law law;
        private int days = FIRST_WEEK;
        /** By the number of each TOWN: the lesser TOWNS near to it, as bits. */
        private final int[] near = new int[MOST_TOWNS];
        /** The TOWNS that take part, in their order. */
        private final int[] part = new int[MOST_TOWNS];
        private int parts = 0;
        /** By the place of each in part: the DAYS that are still to be tried, as bits. */
        private final int[] untried = new int[MOST_TOWNS];
        /** By the number of each TOWN: its DAY, in the way that stands. */
        final int[] day = new int[MOST_TOWNS];
        private boolean begun = false;

        Ways(Land land, Law law) {
            this.land = land;
            this.law = law;
        }

        void suppose(int daysOfWeek) {
            days = daysOfWeek;
            Arrays.fill(near, 0);
            for (int a = 0; a < land.towns; a++) {
                for (int b = a + 1; b < land.towns; b++) {
                    if (law.nearSays(a, b, days) != 0) {
                        near[b] |= 1 << a;
                    }
                }
            }
        }

        void begin(int towns) {
            parts = 0;
            for (int t = 0; t < land.towns; t++) {
                if (hasBit(towns, t)) {
                    part[parts] = t;
                    parts++;
                }
            }
            begun = false;
        }

        /** Whether there is a next way; its DAYS stand in day then. */
        boolean next() {
            int k = begun ? parts - 1 : 0;
            if (!begun && parts > 0) {
                untried[0] = openDays(0);
            }
            begun = true;
            for (int i = 0; i < MOST_STEPS && k >= 0 && k < parts; i++) {
                if (untried[k] == 0) {
                    k--;
                } else {
                    int lowest = untried[k] & -untried[k];
                    untried[k] -= lowest;
                    day[part[k]] = Integer.bitCount(lowest - 1);
                    k++;
                    if (k < parts) {
                        untried[k] = openDays(k);
                    }
                }
            }
            return k == parts;
        }

        /** The DAYS that bar none of those which TOWNS ahead in part have. */
        private int openDays(int k) {
            int t = part[k];
            int fit = land.allowed[t] & (1 << days) - 1;
            for (int i = 0; i < k; i++) {
                int other = part[i];
                int d = day[other];
                if (hasBit(near[t], other)) {
                    fit &= ~(1 << d);
                }
                if (land.leaders[t] == other) {
                    fit &= 1 << dayAfter(d, days);
                }
                if (land.leaders[other] == t) {
                    fit &= 1 << dayBefore(d, days);
                }
            }
            return fit;
        }
    }

    /** What can be FOUND, LEAST and KNOT. */
    private static final class Finder {
        private static final int MOST_COUNTED = 100000, MOST_WAYS = 1000000, ALL = (1 << MOST_TOWNS) - 1;

        private final Land land;
        private final Law law;
        private final Ways ways;
        final int[] found = new int[MOST_TOWNS];
        int foundTowns = 0;
        /** By a TOWN, a DAY, how many others, and the nearest TOWN of the DAY ahead (MOST_TOWNS: none). */
        private final int[] worths = new int[MOST_TOWNS * MOST_DAYS * MOST_TOWNS * (MOST_TOWNS + 1)];
        /** By a TOWN and a set of TOWNS as bits: the nearest other one of the set (MOST_TOWNS: none). */
        private final int[] nearest = new int[MOST_TOWNS << MOST_TOWNS];
        /** By a DAY: which TOWNS have it, as bits. */
        private final int[] there = new int[MOST_DAYS];

        Finder(Land land, Law law) {
            this.land = land;
            this.law = law;
            this.ways = new Ways(land, law);
        }

        int countWays() {
            ways.suppose(land.days);
            ways.begin(ALL);
            int n = 0;
            while (n < MOST_COUNTED && ways.next()) {
                n++;
            }
            return n;
        }

        int fewestDays() {
            for (int days = LEAST_DAYS; days <= MOST_DAYS; days++) {
                ways.suppose(days);
                if (isWay(ALL)) {
                    return days;
                }
            }
            return NONE;
        }

        int smallestKnot() {
            ways.suppose(land.days);
            if (isWay(ALL)) {
                return 0;
            }
            for (int many = 1; many <= land.towns; many++) {
                for (int towns = 1; towns < 1 << land.towns; towns++) {
                    if (Integer.bitCount(towns) == many && !isWay(towns)) {
                        return towns;
                    }
                }
            }
            return 0;
        }

        private boolean isWay(int towns) {
            ways.begin(towns);
            return ways.next();
        }

        long seek(int aim, Giving giving) {
            foundTowns = 0;
            int goal = aim == AIM_BEST ? weigh() : 0;
            ways.suppose(land.days);
            ways.begin(ALL);
            boolean any = false;
            int best = 0;
            for (int i = 0; i < MOST_WAYS && (!any || best < goal) && ways.next(); i++) {
                int score = score(aim, giving);
                if (!any || score > best) {
                    any = true;
                    best = score;
                    keepWay();
                }
            }
            if (!any) {
                return NO + 1;
            }
            return aim == AIM_FIRST ? 1 : aim == AIM_BEST ? best : -best;
        }

        private void keepWay() {
            foundTowns = land.towns;
            for (int t = 0; t < foundTowns; t++) {
                found[t] = ways.day[t];
            }
        }

        private int score(int aim, Giving giving) {
            return aim == AIM_BEST ? worthOfWay() : aim == AIM_NEAREST ? -otherNumbers(giving) : 0;
        }

        private int otherNumbers(Giving giving) {
            int others = 0;
            for (int t = 0; t < land.towns; t++) {
                if (giving == null || giving.numberOf(t) != ways.day[t]) {
                    others++;
                }
            }
            return others;
        }

        private int worthOfWay() {
            Arrays.fill(there, 0);
            for (int t = 0; t < land.towns; t++) {
                there[ways.day[t]] |= 1 << t;
            }
            int sum = 0;
            for (int t = 0; t < land.towns; t++) {
                int d = ways.day[t];
                int others = Integer.bitCount(there[d]) - 1;
                int ahead = there[dayBefore(d, land.days)];
                sum += worths[worthPlace(t, d, others, nearest[t << MOST_TOWNS | ahead])];
            }
            return sum;
        }

        /**
         * Asks THE RULE for all that can differ between ways, as there are up to 7 to the 6th of them.
         * Answers what no way can be worth more than.
         */
        private int weigh() {
            int goal = 0;
            for (int t = 0; t < land.towns; t++) {
                for (int set = 0; set < 1 << land.towns; set++) {
                    nearest[t << MOST_TOWNS | set] = nearestOf(t, set);
                }
                int most = -Law.MOST_WORTH;
                for (int d = 0; d < land.days; d++) {
                    for (int others = 0; others < land.towns; others++) {
                        most = Math.max(most, weighDay(t, d, others));
                    }
                }
                goal += most;
            }
            return goal;
        }

        private int weighDay(int t, int d, int others) {
            int most = law.worthOfDay(t, d, FAR, others);
            worths[worthPlace(t, d, others, MOST_TOWNS)] = most;
            for (int near = 0; near < land.towns; near++) {
                int worth = law.worthOfDay(t, d, land.hoursBetween(t, near), others);
                worths[worthPlace(t, d, others, near)] = worth;
                most = Math.max(most, worth);
            }
            return most;
        }

        private static int worthPlace(int t, int d, int others, int near) {
            return ((t * MOST_DAYS + d) * MOST_TOWNS + others) * (MOST_TOWNS + 1) + near;
        }

        private int nearestOf(int t, int set) {
            int near = MOST_TOWNS;
            int fewest = FAR;
            for (int other = 0; other < land.towns; other++) {
                if (other != t && hasBit(set, other) && land.hoursBetween(t, other) < fewest) {
                    near = other;
                    fewest = land.hoursBetween(t, other);
                }
            }
            return near;
        }
    }

    /** ROUNDS over the MARKETS of a Fair that is open. */
    private static final class Pedlar {
        private static final int NO_WAY_HOME = -1;

        private final Land land;
        private final Fair fair;
        final int[] stops = new int[MOST_DAYS];
        int roundDays = 0;
        /** By a DAY and a TOWN: the most that sells from that DAY on, with no end of goods, if he is there. */
        private final int[] most = new int[MOST_DAYS * MOST_TOWNS];

        Pedlar(Land land, Fair fair) {
            this.land = land;
            this.fair = fair;
        }

        /** A pack only cuts what is sold: so the best ROUND is the first one that sells as much as can be, or all. */
        int findRound(int home, int stride, int pack) {
            for (int d = land.days - 1; d >= 0; d--) {
                for (int t = 0; t < land.towns; t++) {
                    most[d * MOST_TOWNS + t] = mostFrom(d, t, home, stride);
                }
            }
            int goal = Math.min(pack, mostBeyond(0, home, stride));
            int here = home;
            int sold = 0;
            for (int d = 0; d < land.days; d++) {
                here = firstStop(d, here, stride, goal - sold);
                sold += salesAt(d, here);
                stops[d] = here;
            }
            roundDays = land.days;
            return goal;
        }

        private int mostFrom(int d, int t, int home, int stride) {
            int later = 0;
            if (d == land.days - 1) {
                later = t == home ? 0 : NO_WAY_HOME;
            } else {
                later = mostBeyond(d + 1, t, stride);
            }
            return later == NO_WAY_HOME ? NO_WAY_HOME : later + salesAt(d, t);
        }

        private int mostBeyond(int d, int from, int stride) {
            int best = NO_WAY_HOME;
            for (int t = 0; t < land.towns; t++) {
                if (land.hoursBetween(from, t) <= stride) {
                    best = Math.max(best, most[d * MOST_TOWNS + t]);
                }
            }
            return best;
        }

        private int firstStop(int d, int from, int stride, int goal) {
            for (int t = 0; t < land.towns; t++) {
                int sells = most[d * MOST_TOWNS + t];
                if (land.hoursBetween(from, t) <= stride && sells != NO_WAY_HOME && sells >= goal) {
                    return t;
                }
            }
            return from;
        }

        private int salesAt(int d, int t) {
            return fair.isAt(t, d) ? land.sizes[t] : 0;
        }

        int follow(Sheet sheet, int home, int stride) {
            int here = home;
            int sold = 0;
            for (int d = 0; d < sheet.size; d++) {
                int t = sheet.cells[d];
                if (land.hoursBetween(here, t) > stride) {
                    return TOO_FAR - d;
                }
                sold = Math.min(MOST_PACK, sold + salesAt(d, t));
                here = t;
            }
            return here == home ? sold : NOT_HOME;
        }
    }

    /** A row of numbers, or nothing: its room is made once, as a row may come and go with every call. */
    private static final class Sheet {
        private static final int BYTES = 0, SHORTS = 1;

        final int[] cells = new int[MOST_CELLS];
        int sort = NONE;
        int size = 0;

        boolean isMissing() {
            return sort == NONE;
        }

        void become(int newSort, int n) {
            sort = newSort;
            size = newSort == NONE ? 0 : n;
            Arrays.fill(cells, 0);
        }

        boolean spans(long from, int n) {
            return from >= 0 && n >= 0 && from + n <= size;
        }

        boolean write(int i, int v) {
            if (!spans(i, 1)) {
                return false;
            }
            cells[i] = sort == BYTES ? (byte) v : sort == SHORTS ? (short) v : v;
            return true;
        }
    }
}
