import java.math.BigInteger;
import java.util.ArrayList;
import java.util.List;
import java.util.regex.Matcher;
import java.util.regex.Pattern;

/**
 * The document's language told a second time for Model: by descent. What is too much or told already is written down and reading
 * goes on; only a token that can't stand there ends it. The first one along the text is picked at the end.
 */
final class Parser {
    private static final Pattern TOKEN = Pattern.compile("[a-z]+|[0-9]+|<=|<>|>=|[^ \\n]");
    private static final List<String> NAMES = List.of("size", "ground", "age", "far", "many", "marks", "hour");
    private static final List<String> LANGUAGE = List.of("water", "hill", "field", "cloud", "child", "wind", "rain", "most", "seed",
        "law", "grow", "fall", "mark", "or", "and", "not", "size", "ground", "age", "far", "many", "marks", "hour");

    int fault = 0;
    int place = -1;
    private final Model.Story story = new Model.Story();
    private final List<String> tokens = new ArrayList<>();
    private final List<Integer> places = new ArrayList<>();
    private int at = 0;
    private int open = 0;

    /** A token that can't stand there. */
    private static final class Stop extends RuntimeException {
        private static final long serialVersionUID = 1;
    }

    Parser(String text) {
        Matcher matcher = TOKEN.matcher(text);
        while (matcher.find()) {
            tokens.add(matcher.group());
            places.add(matcher.start());
        }
        tokens.add("");
        places.add(text.length());
    }

    Model.Story read() {
        try {
            while (!peek().isEmpty()) {
                line();
                take(";");
                story.lines++;
            }
        } catch (Stop stop) {
            blame(1, places.get(at));
        }
        return story;
    }

    private void blame(int kind, int where) {
        if (fault == 0 || where < place || where == place && kind < fault) {
            fault = kind;
            place = where;
        }
    }

    private String peek() {
        return tokens.get(at);
    }

    private String next() {
        at++;
        return tokens.get(at - 1);
    }

    private void take(String wanted) {
        if (!peek().equals(wanted)) {
            throw new Stop();
        }
        at++;
    }

    private int number(int least, int most) {
        if (!peek().matches("[0-9]+")) {
            throw new Stop();
        }
        int where = places.get(at);
        BigInteger number = new BigInteger(next());
        if (number.compareTo(BigInteger.valueOf(least)) < 0 || number.compareTo(BigInteger.valueOf(most)) > 0) {
            blame(2, where);
            return least;
        }
        return number.intValue();
    }

    private String name(List<String> names) {
        if (!peek().matches("[a-z]{1,6}") || LANGUAGE.contains(peek())) {
            throw new Stop();
        }
        if (names.contains(peek())) {
            blame(3, places.get(at));
        }
        return next();
    }

    private void line() {
        int where = places.get(at);
        String word = peek();
        switch (word) {
            case "water":
            case "hill":
                at++;
                ground(word.equals("water") ? 1 : 2);
                break;
            case "field":
                at++;
                room(story.fields.size() >= 5, where);
                story.fields.add(new Model.Field(name(story.fields.stream().map(f -> f.name()).toList()), number(0, 5), number(0, 3),
                    number(0, 99)));
                break;
            case "cloud":
                at++;
                room(story.clouds.size() >= 8, where);
                story.clouds.add(new Model.Cloud(name(story.clouds.stream().map(c -> c.name()).toList()), number(0, 5), number(0, 3),
                    number(1, 9), number(0, 99)));
                break;
            case "child":
                at++;
                room(story.children.size() >= 6, where);
                story.children.add(new Model.Child(name(story.children.stream().map(c -> c.name()).toList()), number(0, 5),
                    number(0, 3), number(0, 9)));
                break;
            case "wind":
                at++;
                room(story.winds.size() >= 12, where);
                story.winds.add(number(0, 4));
                break;
            case "rain":
            case "most":
            case "seed":
                at++;
                once(word, where);
                break;
            case "law":
                at++;
                law();
                break;
            default:
                throw new Stop();
        }
    }

    private void room(boolean full, int where) {
        if (full) {
            blame(2, where);
        }
    }

    private void ground(int kind) {
        int x = number(0, 5);
        int where = places.get(at);
        int faultAhead = fault;
        int y = number(0, 3);
        if (story.ground[x][y] != 0 && fault == faultAhead) {
            blame(3, where);
        }
        story.ground[x][y] = kind;
    }

    private void once(String word, int where) {
        if (story.told.containsKey(word)) {
            blame(3, where);
        }
        int least = word.equals("seed") ? 0 : 1;
        story.told.put(word, number(least, word.equals("seed") ? 99999 : word.equals("rain") ? 20 : 9));
    }

    private void law() {
        String rule = peek();
        if (!List.of("grow", "fall", "mark").contains(rule)) {
            throw new Stop();
        }
        if (story.laws.containsKey(rule)) {
            blame(3, places.get(at));
        }
        at++;
        story.laws.put(rule, or());
    }

    /** The token here is a knot. */
    private String knot() {
        story.knots++;
        if (story.knots > 64) {
            blame(2, places.get(at));
        }
        return next();
    }

    private Model.Knot or() {
        Model.Knot left = and();
        while (peek().equals("or")) {
            left = new Model.Knot(knot(), left, and());
        }
        return left;
    }

    private Model.Knot and() {
        Model.Knot left = not();
        while (peek().equals("and")) {
            left = new Model.Knot(knot(), left, not());
        }
        return left;
    }

    private Model.Knot not() {
        return peek().equals("not") ? new Model.Knot(knot(), not(), null) : comparison();
    }

    private Model.Knot comparison() {
        Model.Knot left = sum();
        if (List.of("<", "<=", "=", "<>", ">=", ">").contains(peek())) {
            return new Model.Knot(knot(), left, sum());
        }
        return left;
    }

    private Model.Knot sum() {
        Model.Knot left = product();
        while (peek().equals("+") || peek().equals("-")) {
            left = new Model.Knot(knot(), left, product());
        }
        return left;
    }

    private Model.Knot product() {
        Model.Knot left = part();
        while (peek().equals("*") || peek().equals("/")) {
            left = new Model.Knot(knot(), left, part());
        }
        return left;
    }

    private Model.Knot part() {
        if (NAMES.contains(peek())) {
            return new Model.Knot(knot(), null, null);
        }
        if (peek().matches("[0-9]+")) {
            int where = at;
            knot();
            at = where;
            return new Model.Knot(Integer.toString(number(0, 9999)), null, null);
        }
        int where = places.get(at);
        take("(");
        open++;
        if (open > 8) {
            blame(2, where);
        }
        Model.Knot inside = or();
        take(")");
        open--;
        return inside;
    }
}
