/** Short ways to bring a MarketDays where a test wants it. */
final class Make {
    private Make() {
    }

    static MarketDays towns(int... sizes) {
        MarketDays x = new MarketDays();
        for (int size : sizes) {
            x.town(size);
        }
        return x;
    }

    /** Feeds the text to THE TAPE; the last answer of feed(). */
    static int tape(MarketDays x, String text) {
        int answer = 0;
        for (int at = 0; at < text.length(); at += 8) {
            int n = Math.min(8, text.length() - at);
            long word = 0;
            for (int i = 0; i < n; i++) {
                word = word << 8 | text.charAt(at + i) & 255;
            }
            answer = x.feed(word, n);
        }
        return answer;
    }

    static int text(MarketDays x, String text) {
        tape(x, text);
        return x.text();
    }

    /** Makes the text THE RULE; whether it is one. */
    static boolean rule(MarketDays x, String text) {
        int t = text(x, text);
        return t >= 0 && x.force(t) >= 0;
    }

    static void row(MarketDays x, int s, int sort, int... numbers) {
        x.sheet(s, sort, numbers.length);
        for (int i = 0; i < numbers.length; i++) {
            x.cell(s, i, numbers[i]);
        }
    }

    /** A GIVING of these numbers, by SHEET 3. */
    static int giving(MarketDays x, int kind, int... numbers) {
        row(x, 3, 2, numbers);
        return x.giving(kind, 3);
    }
}
