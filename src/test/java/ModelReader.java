import java.util.ArrayList;
import java.util.List;
import java.util.Map;
import java.util.function.BiFunction;
import java.util.function.Function;
import java.util.function.IntBinaryOperator;
import java.util.regex.Matcher;
import java.util.regex.Pattern;

/** The grammar of a TEXT, read into functions of what the NAMES stand for. */
final class ModelReader {
    static final class Fault extends RuntimeException {
        private static final long serialVersionUID = 1;
        final int place;

        Fault(int place) {
            this.place = place;
        }
    }

    private interface E extends Function<Map<String, Integer>, Integer> {
    }

    private record Token(String word, int place) {
    }

    private static final Pattern TOKEN = Pattern.compile("[ \n]*([a-z]+|[0-9]+|[();+\\-*<=]|[^ \n])", Pattern.DOTALL);
    private static final String NAMES = " hours size other day want week ";

    private final List<Token> tokens = new ArrayList<>();
    private int at = 0;
    private int open = 0;

    ModelReader(String text) {
        Matcher m = TOKEN.matcher(text);
        while (m.lookingAt()) {
            tokens.add(new Token(m.group(1), m.start(1)));
            m.region(m.end(), text.length());
        }
        tokens.add(new Token("", text.length()));
    }

    <T> T text(BiFunction<Function<Map<String, Integer>, Integer>, Function<Map<String, Integer>, Integer>, T> make) {
        must("near");
        E near = either();
        must(";");
        must("worth");
        E worth = either();
        must(";");
        must("");
        return make.apply(near, worth);
    }

    private boolean stands(String word) {
        return tokens.get(at).word.equals(word);
    }

    private boolean takes(String word) {
        if (stands(word)) {
            at++;
            return true;
        }
        return false;
    }

    private Fault fault() {
        return new Fault(tokens.get(at).place);
    }

    private void must(String word) {
        if (!stands(word)) {
            throw fault();
        }
        at = Math.min(at + 1, tokens.size() - 1);
    }

    private static E join(E a, E b, IntBinaryOperator how) {
        return names -> how.applyAsInt(a.apply(names), b.apply(names));
    }

    private E either() {
        E e = both();
        while (takes("or")) {
            e = join(e, both(), (a, b) -> a != 0 || b != 0 ? 1 : 0);
        }
        return e;
    }

    private E both() {
        E e = not();
        while (takes("and")) {
            e = join(e, not(), (a, b) -> a != 0 && b != 0 ? 1 : 0);
        }
        return e;
    }

    private void open() {
        if (open == 5) {
            throw fault();
        }
        open++;
        at++;
    }

    private E not() {
        if (stands("not")) {
            open();
            E e = not();
            open--;
            return names -> e.apply(names) == 0 ? 1 : 0;
        }
        E e = sum();
        if (takes("<")) {
            return join(e, sum(), (a, b) -> a < b ? 1 : 0);
        }
        return takes("=") ? join(e, sum(), (a, b) -> a == b ? 1 : 0) : e;
    }

    private E sum() {
        E e = term();
        while (stands("+") || stands("-")) {
            e = takes("+") ? join(e, term(), (a, b) -> a + b) : takes("-") ? join(e, term(), (a, b) -> a - b) : e;
        }
        return e;
    }

    private E term() {
        E e = one();
        while (takes("*")) {
            e = join(e, one(), (a, b) -> a * b);
        }
        return e;
    }

    private E one() {
        String word = tokens.get(at).word;
        if (word.matches("[0-9]{1,4}")) {
            at++;
            int value = Integer.parseInt(word);
            return names -> value;
        }
        if (!word.isEmpty() && NAMES.contains(" " + word + " ")) {
            at++;
            return names -> names.get(word);
        }
        if (stands("-")) {
            open();
            E e = one();
            open--;
            return names -> -e.apply(names);
        }
        if (stands("(")) {
            open();
            E e = either();
            must(")");
            open--;
            return e;
        }
        throw fault();
    }
}
