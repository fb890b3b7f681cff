/** The edges of TEXTS: which TOKEN can stand where, what is none, how long, how deep, how many, how great. */
public final class TextEdgesTest {
    private static final String[] TOKENS = {"near", "worth", "or", "and", "not", "hours", "size", "other", "day",
        "want", "week", "0", "9999", "(", ")", ";", "+", "-", "*", "<", "="};
    private static final String ONE = " hours size other day want week 0 9999 ( - ";
    private static final String E = ONE + "not ";
    private static final String JOIN = " or and + - * ";
    private static final String JOIN_OR_COMPARE = JOIN + "< = ";
    /** What can stand behind each of these. */
    private static final String[][] PLACES = {
        {"", " near "}, {"near", E}, {"near 1", JOIN_OR_COMPARE + "; "}, {"near hours", JOIN_OR_COMPARE + "; "},
        {"near 1 or", E}, {"near 1 and", E}, {"near not", E}, {"near not not", E},
        {"near not 1", JOIN_OR_COMPARE + "; "},
        {"near 1 + ", ONE}, {"near 1 - ", ONE}, {"near 1 *", ONE}, {"near -", ONE}, {"near - -", ONE},
        {"near -1", JOIN_OR_COMPARE + "; "}, {"near 1 <", ONE}, {"near 1 =", ONE}, {"near not 1 <", ONE},
        {"near 1 < 2", JOIN + "; "}, {"near 1 = 2", JOIN + "; "}, {"near 1 < 2 + 3", JOIN + "; "},
        {"near not 1 < 2", JOIN + "; "}, {"near 1 < 2 or 3", JOIN_OR_COMPARE + "; "},
        {"near 1 < 2 and 3", JOIN_OR_COMPARE + "; "}, {"near 1 < 2 * 3", JOIN + "; "},
        {"near (", E}, {"near (1", JOIN_OR_COMPARE + ") "}, {"near (1 < 2", JOIN + ") "},
        {"near (1)", JOIN_OR_COMPARE + "; "}, {"near (1 < 2)", JOIN_OR_COMPARE + "; "},
        {"near ((1)", JOIN_OR_COMPARE + ") "},
        {"near 1 < (1 = 2)", JOIN + "; "}, {"near 1;", " worth "}, {"near 1;worth", E}, {"near 1;worth (", E},
        {"near 1;worth 1", JOIN_OR_COMPARE + "; "}, {"near 1;worth 1 < 2", JOIN + "; "}};
    /** The greatest int, as numbers of four digits tell it. */
    private static final String MOST = "(9999*9999*21+9999*4790+8416)";

    private static final Check check = new Check("TextEdgesTest");

    public static void main(String[] args) {
        places();
        ends();
        bytes();
        bytesAtTokens();
        blanks();
        words();
        numbers();
        open();
        openTillWhere();
        tape();
        texts();
        firstText();
        wraps();
        boundsOfWorth();
        near();
        check.end();
    }

    private static String shown(String text) {
        return text.replace("\n", "\\n");
    }

    private static void fault(String text, int place) {
        MarketDays x = new MarketDays();
        check.due("text() of '" + shown(text) + "'", Make.text(x, text), -100 - place);
        check.due("TEXTS after '" + shown(text) + "'", x.count(4), 1);
        check.due("THE TAPE after '" + shown(text) + "'", x.count(6), 0);
    }

    private static void good(String text) {
        MarketDays x = new MarketDays();
        check.due("text() of '" + shown(text) + "'", Make.text(x, text), 1);
        check.due("THE TAPE after '" + shown(text) + "'", x.count(6), 0);
    }

    private static void places() {
        check.promise(10, "the first byte of the first TOKEN that can't stand there");
        for (String[] place : PLACES) {
            for (String token : TOKENS) {
                boolean stands = place[1].contains(" " + token + " ");
                String text = place[0] + " " + token;
                fault(text + " $", stands ? text.length() + 1 : place[0].length() + 1);
                if (stands && place[0].contains("worth") && token.equals(";")) {
                    good(text);
                } else {
                    fault(text, stands ? text.length() : place[0].length() + 1);
                }
            }
            fault(place[0] + " $", place[0].length() + 1);
            fault(place[0] + " abc", place[0].length() + 1);
            fault(place[0] + " 12345", place[0].length() + 1);
        }
        String whole = "near 1;worth 1;";
        for (String token : TOKENS) {
            fault(whole + " " + token, whole.length() + 1);
        }
    }

    private static void ends() {
        check.promise(10, "the text's size, if it ends too early");
        String[] tokens = {"near", "not", "(", "hours", "+", "2", ")", "<", "-", "size", "or", "other", "*", "day",
            "and", "want", "=", "7", ";", "worth", "week", ";"};
        StringBuilder text = new StringBuilder();
        for (String token : tokens) {
            fault(text.toString(), text.length());
            fault(text + " \n", text.length() + 2);
            text.append(token).append(' ');
        }
        good(text.toString());
        good(text.toString().trim());
        check.due("text() of an empty TAPE", new MarketDays().text(), -100);
    }

    private static void bytes() {
        check.promise(10, "a byte that begins none");
        for (int b = 0; b < 256; b++) {
            char c = (char) b;
            boolean isBlank = c == ' ' || c == '\n';
            boolean opens = c == '(' || c == '-';
            boolean joins = c == '+' || c == '-' || c == '*' || c == '<' || c == '=';
            if (c >= '0' && c <= '9') {
                good("near " + c + ";worth 1;");
            } else {
                fault("near " + c + ";worth 1;", opens || isBlank ? 6 : 5);
            }
            if (isBlank) {
                good("near 1 " + c + ";worth 1;");
                good("near 1;worth 1;" + c);
            } else {
                fault("near 1 " + c + ";worth 1;", joins || c == ';' ? 8 : 7);
                fault("near 1;worth 1;" + c, 15);
            }
        }
    }

    /** No blank stands between the byte and the WORD or NUMBER here. */
    private static void bytesAtTokens() {
        check.promise(10, "TOKENS, each as long as can be");
        for (int b = 0; b < 256; b++) {
            char c = (char) b;
            boolean isBlank = c == ' ' || c == '\n';
            boolean isLetter = c >= 'a' && c <= 'z';
            boolean isDigit = c >= '0' && c <= '9';
            boolean goesOn = "+-*<=;".indexOf(c) >= 0;
            if (isBlank) {
                good("near hours" + c + ";worth 1;");
                good(c + "near 1;worth 1;");
            } else {
                fault("near hours" + c + ";worth 1;", isLetter ? 5 : goesOn ? 11 : 10);
                fault(c + "near 1;worth 1;", 0);
            }
            if (isBlank || isDigit) {
                good("near 12" + c + ";worth 1;");
            } else {
                fault("near 12" + c + ";worth 1;", goesOn ? 8 : 7);
            }
        }
    }

    private static void blanks() {
        check.promise(10, "blanks (32, 10) may stand between");
        good("\n \nnear\nhours \n< 4\n;\n\nworth  10 - other*2\n+want * 5 ; \n");
        good("near hours<4;worth 10-other*2+want*5;");
        good("near(hours)<4;worth-other*2+want*5;");
        fault("near ho urs;", 5);
        fault("near 1 2;", 7);
        fault("ne\nar 1;", 0);
    }

    private static void words() {
        check.promise(10, "a WORD that is neither KEY nor NAME: as many letters as stand there");
        String[][] words = {{"", "near", " 1;worth 1;"}, {"near 1;", "worth", " 1;"}, {"near 1 ", "or", " 1;worth 1;"},
            {"near 1 ", "and", " 1;worth 1;"}, {"near ", "not", " 1;worth 1;"}, {"near ", "hours", ";worth 1;"},
            {"near ", "size", ";worth 1;"}, {"near ", "other", ";worth 1;"}, {"near ", "day", ";worth 1;"},
            {"near ", "want", ";worth 1;"}, {"near ", "week", ";worth 1;"}};
        for (String[] word : words) {
            String w = word[1];
            good(word[0] + w + word[2]);
            for (String other : new String[] {w + "a", w + "z", "a" + w, "z" + w, w.substring(1),
                w.substring(0, w.length() - 1), w + w, w.toUpperCase(), w.replace(w.charAt(1), 'q')}) {
                fault(word[0] + other + word[2], word[0].length());
            }
        }
        fault("near hours7;", 10);
        fault("near not7not;worth 1;", 9);
        good("near not7and8or 9;worth 1;");
    }

    private static void numbers() {
        check.promise(10, "a NUMBER that is too long (more than 4 digits)");
        for (int digits = 1; digits <= 140; digits++) {
            for (String digit : new String[] {"0", "9"}) {
                String number = digit.repeat(digits);
                String text = "near 1+" + number + ";worth 1;";
                if (digits <= 4) {
                    good(text);
                } else {
                    fault(text, 7);
                }
            }
        }
        check.promise(12, "a NUMBER");
        says("0000", 0);
        says("0007", 7);
        says("9999", 9999);
        says("1234", 1234);
    }

    /** All ways to open up to six: a not can't stand behind a -, and the sixth can't stand anywhere. */
    private static void open() {
        check.promise(10, "a ( , a not, a - ahead of a ONE while 5 of these are open");
        String[] openers = {"( ", "not ", "- "};
        for (int many = 1; many <= 6; many++) {
            int all = (int) Math.pow(3, many);
            for (int way = 0; way < all; way++) {
                openOne(openers, many, way);
            }
        }
    }

    private static void openOne(String[] openers, int many, int way) {
        StringBuilder text = new StringBuilder("near ");
        int closers = 0;
        int wrong = -1;
        int before = 0;
        for (int i = 0; i < many; i++, way /= 3) {
            if (wrong < 0 && (i == 5 || before == 2 && way % 3 == 1)) {
                wrong = text.length();
            }
            before = way % 3;
            closers += before == 0 ? 1 : 0;
            text.append(openers[before]);
        }
        text.append("1").append(")".repeat(closers)).append(";worth 1;");
        if (wrong < 0) {
            good(text.toString());
        } else {
            fault(text.toString(), wrong);
        }
    }

    private static void openTillWhere() {
        check.promise(10, "(a ( till its ) , not and - till what they belong to ends)");
        String five = "(((((1)))))";
        for (String join : new String[] {"+", "-", "*", "<", "=", " or ", " and "}) {
            good("near " + five + join + five + ";worth " + five + ";");
            good("near -----1" + join + "-----1;worth -----1;");
            fault("near -----1" + join + "------1;", 5 + 6 + join.length() + 5);
            fault("near (" + five + ");", 5 + 5);
            fault("near (1" + join + five + ");", 5 + 2 + join.length() + 4);
            good("near ((((1" + join + "-1)))) ;worth 1;");
            fault("near (((((1" + join + "-1)))));", 5 + 6 + join.length());
        }
        String nots = "not not not not not ";
        for (String join : new String[] {" or ", " and "}) {
            good("near " + nots + "1" + join + nots + "1;worth 1;");
            good("near " + nots + "1" + join + "-1;worth " + nots + "1;");
        }
        for (String join : new String[] {"+", "-", "*", "<", "="}) {
            fault("near " + nots + "1" + join + "-1;", 5 + 20 + 1 + join.length());
            fault("near " + nots + "1" + join + "(1);", 5 + 20 + 1 + join.length());
            good("near " + nots.substring(4) + "1" + join + "-1;worth 1;");
        }
        good("near (1)+(((((1)))))+-----1;worth 1;");
        good("near -(1)*(-(((1))));worth 1;");
    }

    private static void tape() {
        check.promise(9, "THE TAPE (160 bytes at most)");
        MarketDays x = new MarketDays();
        for (int n = 8; n <= 152; n += 8) {
            check.due("feed(.., 8)", x.feed(0x2020202020202020L, 8), n);
        }
        for (int n = 1; n <= 8; n++) {
            MarketDays y = new MarketDays();
            Make.tape(y, " ".repeat(160 - n));
            check.due("feed(.., " + (n + 1) + ") on " + (160 - n), n == 8 ? -4 : y.feed(0, n + 1), -4);
            check.due("feed(.., " + n + ") on " + (160 - n), y.feed(0, n), 160);
            check.due("feed(.., 1) on 160", y.feed(0, 1), -4);
            check.due("feed(.., 9) on 160", y.feed(0, 9), -2);
            check.due("count(6)", y.count(6), 160);
        }
        check.due("feed(.., 8), to the last", x.feed(0x2020202020202020L, 8), 160);
        check.due("text() of 160 blanks", x.text(), -260);
        check.due("feed(.., 1) on an empty one", x.feed(0, 1), 1);
        String text = "near 1;worth 1;";
        good(text + " ".repeat(145));
        good(" ".repeat(145) + text);
        fault(text + " ".repeat(144) + "$", 159);
        check.promise(9, "the n lowest bytes of w, the highest first");
        for (int n = 1; n <= 8; n++) {
            MarketDays y = new MarketDays();
            Make.tape(y, "near 1 ");
            y.feed(word(n, '$'), n);
            check.due("text() with $ as the highest of " + n, y.text(), -107);
            Make.tape(y, "near 1 ");
            y.feed(n < 8 ? 0x2424242424242424L << 8 * n | word(n, ' ') : word(n, ' '), n);
            check.due("text() with $ above the lowest " + n, y.text(), -107 - n);
        }
    }

    /** The highest of n bytes, and blanks behind it. */
    private static long word(int n, char highest) {
        long w = highest;
        for (int i = 1; i < n; i++) {
            w = w << 8 | ' ';
        }
        return w;
    }

    private static void texts() {
        check.promise(10, "TEXTS are numbered from 0 on, 6 at most; FULL (ahead of the FAULT; then THE TAPE stays)");
        MarketDays x = Make.towns(1, 2);
        for (int t = 1; t <= 5; t++) {
            check.due("text(), a FAULT", Make.text(x, "near $"), -105);
            check.due("text()", Make.text(x, "near " + t + ";worth 1;"), t);
        }
        Make.tape(x, "near 6;worth 1;");
        check.due("text(), a seventh", x.text(), -4);
        check.due("count(6), THE TAPE stays", x.count(6), 15);
        Make.tape(x, "$");
        check.due("text(), FULL ahead of the FAULT", x.text(), -4);
        check.due("count(6), THE TAPE stays", x.count(6), 16);
        check.due("count(4)", x.count(4), 6);
        for (int t = 1; t <= 5; t++) {
            check.due("force(" + t + ")", x.force(t), t - 1);
            check.due("says(0, 1)", x.says(0, 1), t);
        }
        check.due("force(6)", x.force(6), -2);
    }

    private static void firstText() {
        check.promise(11, "TEXT 0, at first, and THE RULE: near hours < 4");
        MarketDays x = Make.towns(1, 2);
        check.due("count(4)", x.count(4), 1);
        check.due("count(5)", x.count(5), 0);
        for (int hours = 0; hours <= 50; hours++) {
            x.road(0, 1, hours);
            check.due("says(0, 1) of " + hours, x.says(0, 1), hours > 0 && hours < 4 ? 1 : 0);
        }
        check.promise(13, "worth 10 - other * 2 + want * 5");
        x.want(1, 1, 5);
        for (int others = 0; others <= 6; others++) {
            check.due("worthOf(0, 5, 0, others)", x.worthOf(0, 5, 0, others), 10 - others * 2);
            check.due("worthOf(1, 5, 99, others)", x.worthOf(1, 5, 99, others), 15 - others * 2);
        }
    }

    private static void says(String e, long due) {
        MarketDays x = Make.towns(0, 0);
        check.holds("a TEXT: " + e, Make.rule(x, "near " + e + ";worth " + e + ";"));
        check.due("near " + e, x.says(0, 1), due);
        check.due("worth " + e, x.worthOf(0, 0, 0, 0), Math.max(-999, Math.min(999, due)));
    }

    private static void wraps() {
        check.promise(12, "an E is an int (32 bits, wrapping)");
        String least = "(-" + MOST + "-1)";
        says(MOST, Integer.MAX_VALUE);
        says(least, Integer.MIN_VALUE);
        says(MOST + "+1", Integer.MIN_VALUE);
        says(least + "-1", Integer.MAX_VALUE);
        says(least + "+" + least, 0);
        says("-" + least, Integer.MIN_VALUE);
        says(least + "*(-1)", Integer.MIN_VALUE);
        says(MOST + "*2", -2);
        says(MOST + "*" + MOST, 1);
        says(MOST + "+1<0", 1);
        says(MOST + "+1<" + MOST, 1);
        says(least + "<" + MOST, 1);
        says("not " + least, 0);
        says("9999*9999*9999*9999", (int) (9999L * 9999L * 9999L * 9999L));
        says("9999*9999*9999", (int) (9999L * 9999L * 9999L));
        says("-9999*9999*9999", (int) (-9999L * 9999L * 9999L));
        says("4096*4096*256", 0);
        says("4096*4096*256 or 0", 0);
        says("not 4096*4096*256", 1);
        says("4096*4096*128", Integer.MIN_VALUE);
        says("4096*4096*128 and 1", 1);
        check.promise(12, "of or, and, not, <, = 1 or 0 (what is not 0 is true)");
        for (String one : new String[] {"0", "1", "2", "-1", least}) {
            boolean is = !one.equals("0");
            says("not " + one, is ? 0 : 1);
            says(one + " or 0", is ? 1 : 0);
            says(one + " or 3", 1);
            says("0 or " + one, is ? 1 : 0);
            says(one + " and 3", is ? 1 : 0);
            says("0 and " + one, 0);
            says(one + " and " + one, is ? 1 : 0);
            says(one + "=" + one, 1);
            says(one + "<" + one, 0);
        }
        says("1=2", 0);
        says("2=1", 0);
        says("1<2", 1);
        says("2<1", 0);
        says("-1<0", 1);
    }

    private static void boundsOfWorth() {
        check.promise(13, "-999 .. 999, else the bound");
        for (int v = 990; v <= 1010; v++) {
            says("" + v, v);
            says("-" + v, -v);
        }
        says(MOST, Integer.MAX_VALUE);
        says("-" + MOST, -Integer.MAX_VALUE);
        check.promise(18, "worth of a DAY within its bounds, ahead of all together");
        String[] texts = {"near 0;worth 1000;", "near 0;worth -1000;", "near 0;worth " + MOST + "+1;"};
        int[] worth = {999, -999, -999};
        for (int i = 0; i < texts.length; i++) {
            MarketDays x = Make.towns(1, 2);
            Make.rule(x, texts[i]);
            int[] due = {worth[i], worth[i], worth[i], worth[i] - 2, worth[i] - 2, worth[i] + 1};
            for (int kind = 0; kind < 6; kind++) {
                int g = Make.giving(x, kind, 0, 1);
                check.due("judge of KIND " + kind, x.judge(g, 0, 0), due[kind]);
                check.due("judge of all of KIND " + kind, x.judge(g, 0, -1), 2 * due[kind]);
            }
            check.due("find(2, 0)", x.find(2, 0), 2 * worth[i]);
        }
    }

    private static void near() {
        check.promise(16, "NEAR are two, if near of the lesser one and the other isn't 0");
        String[] texts = {"0", "1", "-1", "2", "4096*4096*256", "4096*4096*128", "0*hours", "size<other", "other<size"};
        boolean[] isNear = {false, true, true, true, false, true, false, true, false};
        for (int i = 0; i < texts.length; i++) {
            MarketDays x = Make.towns(0, 99);
            Make.rule(x, "near " + texts[i] + ";worth 0;");
            int g = Make.giving(x, 0, 3, 3);
            check.due("bar, near " + texts[i], x.bar(g, 0), isNear[i] ? 1 : -1);
            check.due("can(), near " + texts[i], x.can(), isNear[i] ? 30 : 36);
            check.due("room, near " + texts[i], x.room(g, 1, 0), isNear[i] ? 63 - 8 : 63);
            check.due("room of the lesser one, near " + texts[i], x.room(g, 0, 0), isNear[i] ? 63 - 8 : 63);
        }
    }
}
