import java.lang.reflect.InvocationTargetException;
import java.lang.reflect.Method;
import java.util.ArrayList;
import java.util.List;
import java.util.Random;

/** The class and Model answer the same rows of calls, drawn from seeds; so many rows as the first argument says (120). */
public final class ModelTest {
    /**
     * How a call is drawn: its name, how often, and what each of its numbers mostly is: from:to, or one of the text's fields (f),
     * clouds (c), children (k), or one behind the last note (n).
     */
    private static final String[] CALLS = {
        "fault 1 -1:2", "cloud 9 c -1:6", "child 9 k -1:6", "field 6 f -1:4", "ground 2 -1:6 -1:4", "sees 3 k",
        "in 3 -1:6 -1:4", "law 5 -1:3 c", "push 14 k 0:5", "give 8 c -1:6", "stand 6 k 0:5 0:3", "blow 4 -1:4",
        "go 12 0:2", "ahead 5 0:12 -1:4", "could 5", "station 3 k 0:9 -1:2", "lacks 2", "enough 3 f", "whose 4 f",
        "swaps 3", "swap 4 -1:3", "likely 3 f 0:4 -1:2", "plan 3 k f 0:4", "step 3 k f 0:4 -1:4", "rests 3 k k",
        "rest 3 k k -1:25", "note 6 0:9 0:5 0:3 0:1", "out 3 n", "known 3 n", "sizes 5 c", "chance 3 0:99999 1:9 f 0:9",
        "tried 6 0:5 0:0 0:12", "tried 2 2:2 c 0:12", "undo 6", "keep 2", "back 3", "count 9 -1:15"};
    /** Calls that come far more often in some rows, so that what is limited is filled: what can be undone, notes, hours. */
    private static final String[][] MOODS = {{}, {"push 60 k 1:4", "give 90 c -1:5", "stand 90 k 0:5 0:3", "blow 60 -1:4", "undo 40"},
        {"note 90 1:9 0:5 0:3 0:1", "out 30 n", "known 30 n", "sizes 20 c"}, {"go 50 60:99", "chance 30 0:0 1:4 f 0:3"}};
    private static final int[] EDGES = {-2, -1, 0, 1, 4, 5, 6, 8, 9, 20, 24, 40, 41, 59, 60, 61, 99, 100, 999, 1000,
        Integer.MAX_VALUE, Integer.MIN_VALUE};
    private static final String[] WORDS = {"a", "b", "puff", "wisp", "meadow", "zz", "al", "bo", "c", "d", "e", "f"};
    private static final String[] SCRAPS = {"water", "hill", "field", "cloud", "child", "wind", "rain", "most", "seed", "law", "grow",
        "fall", "mark", "or", "and", "not", "size", "ground", "age", "far", "many", "marks", "hour", "puffpuf", "Z", "\t", "\u00e9",
        "(", ")", ";", "<", ">", "=", "+", "-", "*", "/", "0", "7", "10", "10000", "99999999999999999999", " ", "\n", "x"};

    private final Random random;
    private final CloudSchool school = new CloudSchool();
    private final Model model = new Model();
    private final StringBuilder story = new StringBuilder();

    private ModelTest(int seed) {
        random = new Random(seed);
    }

    public static void main(String[] args) throws Exception {
        int rows = args.length > 0 ? Integer.parseInt(args[0]) : 120;
        int first = args.length > 1 ? Integer.parseInt(args[1]) : 0;
        Check.about("the model");
        for (int seed = first; seed < first + rows; seed++) {
            new ModelTest(seed).run();
        }
        Check.end("ModelTest");
    }

    private void run() throws Exception {
        int left = 512;
        for (int texts = random.nextInt(3); texts >= 0; texts--) {
            left -= tell(random.nextInt(4) == 0 ? spoiled(text()) : text());
        }
        List<String> lots = new ArrayList<>();
        put(CALLS, lots);
        put(MOODS[random.nextInt(MOODS.length)], lots);
        while (left > 40) {
            boolean bare = model.count(7) + model.count(8) == 0;
            if (random.nextInt(bare ? 14 : 140) == 0) {
                left -= tell(random.nextInt(4) == 0 ? spoiled(text()) : text());
            }
            draw(lots.get(random.nextInt(lots.size())).split(" "));
            left--;
        }
    }

    private static void put(String[] calls, List<String> lots) {
        for (String call : calls) {
            for (int i = Integer.parseInt(call.split(" ")[1]); i > 0; i--) {
                lots.add(call);
            }
        }
    }

    private int from(int least, int most) {
        return least + random.nextInt(most - least + 1);
    }

    private void draw(String[] call) throws Exception {
        Object[] values = new Object[call.length - 2];
        for (int i = 0; i < values.length; i++) {
            values[i] = random.nextInt(25) == 0 ? EDGES[random.nextInt(EDGES.length)] : number(call[i + 2]);
        }
        if (call[0].equals("note")) {
            int hours = (Integer) values[0];
            boolean was = model.was(hours, (Integer) values[1], (Integer) values[2]);
            values[3] = random.nextInt(8) == 0 ? !was : was;
        }
        ask(call[0], values);
    }

    private int number(String kind) {
        int what = "fck".indexOf(kind);
        if (what >= 0) {
            return from(0, Math.max(0, model.count(what) - (random.nextInt(20) == 0 ? 0 : 1)));
        }
        if (kind.equals("n")) {
            return from(-1, model.count(12));
        }
        return from(Integer.parseInt(kind.split(":")[0]), Integer.parseInt(kind.split(":")[1]));
    }

    /** Asks both; how the answers differ is told with all calls that went ahead. */
    private void ask(String name, Object... values) throws Exception {
        story.append(name).append(java.util.Arrays.toString(values)).append(' ');
        String got = answer(school, CloudSchool.class, name, values);
        String want = answer(model, Model.class, name, values);
        if (!got.equals(want)) {
            Check.alike(story.toString(), got, want);
        }
    }

    private static String answer(Object asked, Class<?> of, String name, Object[] values) throws Exception {
        for (Method method : of.getDeclaredMethods()) {
            if (method.getName().equals(name) && java.lang.reflect.Modifier.isPublic(method.getModifiers())) {
                try {
                    return String.valueOf(method.invoke(asked, values));
                } catch (InvocationTargetException e) {
                    return e.getCause().getClass().getName();
                }
            }
        }
        return "no such call";
    }

    /** Feeds and reads a text; how many calls it took. */
    private int tell(String text) throws Exception {
        int calls = 4;
        for (int i = 0; i < text.length(); i += 20) {
            int[] row = new int[5];
            for (int k = 0; k < 20; k++) {
                row[k / 4] = row[k / 4] << 8 | (i + k < text.length() ? text.charAt(i + k) : 59);
            }
            ask("feed", row[0], row[1], row[2], row[3], row[4]);
            calls++;
        }
        story.append("<<").append(text).append(">> ");
        if (random.nextInt(9) == 0) {
            ask("text", text.length() + from(-2, 40));
        }
        ask("text", Math.min(700, text.length()));
        ask("fault", 0);
        ask("fault", 1);
        for (int what = 0; what < 3; what++) {
            ask("named", what, Check.letters(WORDS[random.nextInt(WORDS.length)]));
            calls++;
        }
        return calls;
    }

    private String text() {
        int kind = random.nextInt(10);
        return kind == 0 ? crowded() : kind == 1 ? lawful() : ordinary();
    }

    /** As many of each kind as there may be, or a few more, of names that may come twice. */
    private String crowded() {
        StringBuilder all = new StringBuilder();
        int more = random.nextInt(2);
        for (int i = 0; i < 12 + more; i++) {
            String name = random.nextInt(40) == 0 ? "b" : WORDS[i % WORDS.length];
            all.append(i < 5 + more ? "field " + name + " " + from(0, 5) + " " + from(0, 3) + " 9;" : "");
            all.append(i < 8 + random.nextInt(2) * more ? "cloud " + name + " " + from(0, 5) + " " + from(0, 3) + " " + from(1, 9) + " 0;" : "");
            all.append(i < 6 + random.nextInt(2) * more ? "child " + name + " " + from(0, 5) + " " + from(0, 3) + " " + from(0, 9) + ";" : "");
            all.append(random.nextInt(12) == 0 ? "" : "wind 0;");
            all.append(random.nextInt(60) == 0 ? "rain 4;seed 0;most 2;" : "");
        }
        return all.substring(0, Math.min(700, all.length()));
    }

    /** Laws of some 64 knots in all, and of some eight brackets open at once. */
    private String lawful() {
        StringBuilder all = new StringBuilder("cloud a 2 2 5 0;child c 2 2 1;field f 2 2 9;");
        int left = from(60, 68);
        for (String rule : new String[] {"grow", "fall", "mark"}) {
            int own = rule.equals("mark") ? left : from(1, left / 2);
            left -= own;
            int open = from(0, random.nextInt(3) == 0 ? 9 : 8);
            boolean not = own % 2 == 0;
            all.append("law ").append(rule).append(' ').append("(".repeat(open)).append(not ? "not size" : "size");
            for (int i = not ? 2 : 1; i < own; i += 2) {
                all.append(random.nextInt(9) == 0 ? " or " : "+").append(random.nextInt(9) == 0 ? "far" : "1");
            }
            all.append(")".repeat(open)).append(';');
        }
        return all.substring(0, Math.min(700, all.length()));
    }

    private String ordinary() {
        List<String> lines = new ArrayList<>();
        int kinds = from(2, 6);
        for (int cell = random.nextInt(24); cell < 24; cell += from(1, 9)) {
            lines.add((random.nextInt(2) == 0 ? "water " : "hill ") + cell % 6 + " " + cell / 6);
        }
        for (int i = 0; i < Math.min(5, kinds); i++) {
            lines.add("field " + WORDS[i] + " " + from(0, 5) + " " + from(0, 3) + " " + from(0, 25));
        }
        for (int i = from(1, 8) - 1; i >= 0; i--) {
            lines.add("cloud " + WORDS[i] + " " + from(0, 5) + " " + from(0, 3) + " " + from(1, 9) + " "
                + from(0, 12) * random.nextInt(2));
        }
        for (int i = from(0, 6) - 1; i >= 0; i--) {
            lines.add("child " + WORDS[i + 3] + " " + from(0, 5) + " " + from(0, 3) + " " + from(0, 4));
        }
        for (int i = from(0, 6); i > 0; i--) {
            lines.add("wind " + (random.nextInt(3) == 0 ? from(0, 4) : 0));
        }
        lines.add("rain " + from(1, 12));
        lines.add("most " + from(1, 3));
        lines.add("seed " + from(0, 99999));
        for (String rule : new String[] {"grow", "fall", "mark"}) {
            if (random.nextInt(2) == 0) {
                lines.add("law " + rule + " " + law(from(0, 3)));
            }
        }
        java.util.Collections.shuffle(lines, random);
        lines.subList(Math.min(lines.size(), from(6, 60)), lines.size()).clear();
        String all = lines.isEmpty() ? "" : String.join(random.nextInt(2) == 0 ? ";" : " ;\n", lines) + ";";
        return all.substring(0, Math.min(700, all.length()));
    }

    private String law(int deep) {
        int kind = deep == 0 ? from(0, 1) : from(0, 9);
        String[] names = {"size", "ground", "age", "far", "many", "marks", "hour"};
        String[] signs = {"+", "-", "*", "/", "<", "<=", "=", "<>", ">=", ">", " and ", " or "};
        if (kind == 0) {
            return random.nextInt(9) == 0 ? "9999" : Integer.toString(from(0, 9));
        }
        if (kind == 1) {
            return names[random.nextInt(names.length)];
        }
        if (kind == 2) {
            return "not " + law(deep - 1);
        }
        String sign = signs[random.nextInt(random.nextInt(2) == 0 ? 4 : signs.length)];
        return kind < 6 ? "(" + law(deep - 1) + ")" + sign + law(deep - 1) : law(deep - 1) + sign + "(" + law(deep - 1) + ")";
    }

    /** With a few scraps put in, taken out, or written over. */
    private String spoiled(String text) {
        StringBuilder spoiled = new StringBuilder(text);
        for (int i = from(1, 3); i > 0; i--) {
            int at = random.nextInt(spoiled.length() + 1);
            int upTo = Math.min(spoiled.length(), at + random.nextInt(3));
            spoiled.replace(at, upTo, random.nextInt(4) == 0 ? "" : SCRAPS[random.nextInt(SCRAPS.length)]);
        }
        return spoiled.substring(0, Math.min(700, spoiled.length()));
    }
}
