import java.math.BigInteger;
import java.util.ArrayList;
import java.util.HashMap;
import java.util.List;
import java.util.Map;
import java.util.NoSuchElementException;

/**
 * The document told a second time, as plainly as it goes and by other ways than the class (a tree of knots, all rows tried, whole
 * skies kept to undo), so that ModelTest can compare the two. Methods bear the names of the face.
 */
final class Model {
    static final int NONE = -1;

    private final List<Integer> tape = new ArrayList<>();
    private Story story = new Story();
    private World now = new World(story);
    private World image = null;
    private final List<World> before = new ArrayList<>();
    private int fault = 0;
    private int faultPlace = NONE;
    private final List<Note> notes = new ArrayList<>();
    private int known = NONE;

    record Note(int hours, int x, int y, boolean is, int strikes) {
    }

    private static boolean cell(int x, int y) {
        return 0 <= x && x <= 5 && 0 <= y && y <= 3;
    }

    private boolean noCloud(int i) {
        return i < 0 || i >= story.clouds.size();
    }

    private boolean noChild(int i) {
        return i < 0 || i >= story.children.size();
    }

    private boolean noField(int i) {
        return i < 0 || i >= story.fields.size();
    }

    public int feed(int a, int b, int c, int d, int e) {
        if (tape.size() > 680) {
            return NONE;
        }
        for (int number : new int[] {a, b, c, d, e}) {
            tape.add(number >>> 24);
            tape.add(number >>> 16 & 255);
            tape.add(number >>> 8 & 255);
            tape.add(number & 255);
        }
        return tape.size();
    }

    public int text(int n) {
        if (n < 0 || n > tape.size()) {
            return -2;
        }
        StringBuilder letters = new StringBuilder();
        for (int i = 0; i < n; i++) {
            letters.append((char) (int) tape.get(i));
        }
        tape.clear();
        Parser parser = new Parser(letters.toString());
        Story read = parser.read();
        fault = parser.fault;
        faultPlace = parser.place;
        if (fault != 0) {
            return NONE;
        }
        story = read;
        now = new World(read);
        image = null;
        before.clear();
        notes.clear();
        known = NONE;
        return read.lines;
    }

    public int fault(int what) {
        return what == 0 ? fault : what == 1 ? faultPlace : NONE;
    }

    public int named(int what, int letters) {
        List<String> names = new ArrayList<>();
        if (what == 0) {
            story.fields.forEach(field -> names.add(field.name));
        } else if (what == 1) {
            story.clouds.forEach(cloud -> names.add(cloud.name));
        } else if (what == 2) {
            story.children.forEach(child -> names.add(child.name));
        }
        for (int i = 0; i < names.size(); i++) {
            int packed = 0;
            for (int k = 0; k < names.get(i).length(); k++) {
                packed += (names.get(i).charAt(k) - 96) << (25 - 5 * k);
            }
            if (packed == letters) {
                return i;
            }
        }
        return NONE;
    }

    public int cloud(int cloud, int what) {
        if (noCloud(cloud)) {
            throw new IndexOutOfBoundsException();
        }
        Puff puff = now.puffs[cloud];
        int[] answers = {puff.x, puff.y, puff.size, puff.age, puff.child, puff.fate.ordinal()};
        if (what < 0 || what > 5) {
            throw new NoSuchElementException();
        }
        return answers[what];
    }

    public int child(int child, int what) {
        if (noChild(child) || what < 0 || what > 5) {
            return NONE;
        }
        Kid kid = now.kids[child];
        int rained = 0;
        for (int amount : kid.rained) {
            rained += amount;
        }
        return new int[] {kid.x, kid.y, kid.sight, kid.marks, now.load(child), rained}[what];
    }

    public int field(int field, int what) {
        if (noField(field) || what < 0 || what > 3) {
            return NONE;
        }
        Field one = story.fields.get(field);
        return new int[] {one.x, one.y, one.need, now.got[field]}[what];
    }

    public int ground(int x, int y) {
        return cell(x, y) ? story.ground[x][y] : NONE;
    }

    public int sees(int child) {
        if (noChild(child)) {
            return NONE;
        }
        int bits = 0;
        for (int i = 0; i < now.puffs.length; i++) {
            bits += now.puffs[i].up() && now.sees(child, i) ? 1 << i : 0;
        }
        return bits;
    }

    public int in(int x, int y) {
        return cell(x, y) ? now.in(x, y) : NONE;
    }

    public long law(int what, int cloud) {
        if (what < 0 || what > 2 || noCloud(cloud) || !now.puffs[cloud].up()) {
            return Long.MIN_VALUE;
        }
        Long worth = now.law(new String[] {"grow", "fall", "mark"}[what], cloud);
        return worth == null ? Long.MIN_VALUE : worth;
    }

    private void remember() {
        before.add(now.copy());
        if (before.size() > 20) {
            before.remove(0);
        }
    }

    public int push(int child, int way) {
        if (noChild(child) || way < 1 || way > 4) {
            return NONE;
        }
        int first = now.firstOf(child);
        if (first < 0) {
            return -2;
        }
        remember();
        now.push(child, way);
        return first;
    }

    public boolean give(int cloud, int child) {
        if (noCloud(cloud) || !now.puffs[cloud].up() || child != NONE && noChild(child) || now.puffs[cloud].child == child) {
            return false;
        }
        remember();
        now.puffs[cloud].child = child;
        return true;
    }

    public boolean stand(int child, int x, int y) {
        if (noChild(child) || !cell(x, y) || now.kids[child].x == x && now.kids[child].y == y) {
            return false;
        }
        remember();
        now.kids[child].x = x;
        now.kids[child].y = y;
        return true;
    }

    public boolean blow(int wind) {
        if (wind < -1 || wind > 4 || wind == now.call) {
            return false;
        }
        remember();
        now.call = wind;
        return true;
    }

    public int go(int n) {
        if (n < 0 || n > 99 || n > 999 - now.hour) {
            return NONE;
        }
        if (n != 0) {
            before.clear();
        }
        now.hours(n);
        return now.hour;
    }

    public int ahead(int n, int what) {
        if (n < 0 || n > 60 || what < 0 || what > 3) {
            return NONE;
        }
        World then = now.copy().hours(n);
        return new int[] {then.rain() - now.rain(), then.all(Fate.SKY), then.marks() - now.marks(),
            then.all(Fate.LOST) - now.all(Fate.LOST)}[what];
    }

    public int could() {
        return couldFrom(0, new int[now.kids.length]);
    }

    private int couldFrom(int cloud, int[] loads) {
        if (cloud == now.puffs.length) {
            return 0;
        }
        int best = couldFrom(cloud + 1, loads);
        for (int child = 0; child < loads.length && now.puffs[cloud].up(); child++) {
            if (best < now.puffs.length - cloud && now.sees(child, cloud) && loads[child] < story.most()) {
                loads[child]++;
                best = Math.max(best, 1 + couldFrom(cloud + 1, loads));
                loads[child]--;
            }
        }
        return best;
    }

    public int station(int child, int n, int what) {
        if (noChild(child) || n < 1 || n > 60 || what < 0 || what > 1) {
            return NONE;
        }
        List<World> later = new ArrayList<>();
        World then = now.copy();
        for (int i = 0; i < n; i++) {
            later.add(then.hours(1).copy());
        }
        int best = -1;
        int most = -1;
        for (int y = 0; y < 4; y++) {
            for (int x = 0; x < 6; x++) {
                int many = 0;
                for (World world : later) {
                    world.kids[child].x = x;
                    world.kids[child].y = y;
                    for (int i = 0; i < world.puffs.length; i++) {
                        many += world.puffs[i].up() && world.sees(child, i) ? 1 : 0;
                    }
                }
                if (many > most) {
                    most = many;
                    best = 6 * y + x;
                }
            }
        }
        return what == 0 ? best : most;
    }

    public int lacks() {
        int bits = 0;
        for (int i = 0; i < story.fields.size(); i++) {
            bits += now.got[i] < story.fields.get(i).need ? 1 << i : 0;
        }
        return bits;
    }

    public int enough(int field) {
        if (noField(field)) {
            return NONE;
        }
        for (int n = 0; n <= 99; n++) {
            if (now.copy().hours(n).got[field] >= story.fields.get(field).need) {
                return n;
            }
        }
        return -2;
    }

    public int whose(int field) {
        if (noField(field)) {
            return NONE;
        }
        int most = 0;
        for (Kid kid : now.kids) {
            most = Math.max(most, kid.rained[field]);
        }
        for (int i = 0; i < now.kids.length && most > 0; i++) {
            if (now.kids[i].rained[field] == most) {
                return i;
            }
        }
        return -2;
    }

    private List<Integer> allSwaps() {
        List<Integer> all = new ArrayList<>();
        for (int i = 0; i < now.puffs.length; i++) {
            for (int k = i + 1; k < now.puffs.length; k++) {
                Puff a = now.puffs[i];
                Puff b = now.puffs[k];
                if (a.up() && b.up() && a.child >= 0 && b.child >= 0 && a.child != b.child
                    && now.far(a.child, k) < now.far(a.child, i) && now.far(b.child, i) < now.far(b.child, k)) {
                    all.add(10 * i + k);
                }
            }
        }
        return all;
    }

    public int swaps() {
        return allSwaps().size();
    }

    private static int of(List<Integer> all, int k) {
        return k < 0 ? NONE : k < all.size() ? all.get(k) : -2;
    }

    public int swap(int k) {
        return of(allSwaps(), k);
    }

    public int likely(int field, int n, int what) {
        if (noField(field) || n < 1 || n > 5 || what < 0 || what > 1) {
            return NONE;
        }
        int rows = (int) Math.pow(5, n);
        int with = 0;
        for (int row = 0; row < rows; row++) {
            World then = now.copy();
            for (int i = 0, rest = row; i < n; i++, rest /= 5) {
                then.hour(rest % 5);
            }
            with += then.got[field] != now.got[field] ? 1 : 0;
        }
        int part = BigInteger.valueOf(with).gcd(BigInteger.valueOf(rows)).intValue();
        return (what == 0 ? with : rows) / part;
    }

    /** The pushes as a number of n digits to the base 5, and what falls by them. */
    private int[] bestPlan(int child, int field, int n) {
        int[] best = {-1, -1};
        for (int row = 0; row < Math.pow(5, n); row++) {
            World then = now.copy();
            for (int i = n - 1; i >= 0; i--) {
                then.push(child, row / (int) Math.pow(5, i) % 5);
                then.hours(1);
            }
            if (then.got[field] - now.got[field] > best[1]) {
                best = new int[] {row, then.got[field] - now.got[field]};
            }
        }
        return best;
    }

    public int plan(int child, int field, int n) {
        return noChild(child) || noField(field) || n < 1 || n > 4 ? NONE : bestPlan(child, field, n)[1];
    }

    public int step(int child, int field, int n, int k) {
        if (noChild(child) || noField(field) || n < 1 || n > 4 || k < 0) {
            return NONE;
        }
        return k >= n ? -2 : bestPlan(child, field, n)[0] / (int) Math.pow(5, n - 1 - k) % 5;
    }

    private int[] both(int one, int other, int first, int second) {
        World then = now.copy();
        then.push(one, first);
        then.push(other, second);
        then.hours(1);
        int[] have = new int[2];
        for (int field = 0; field < story.fields.size(); field++) {
            have[0] += then.kids[one].rained[field] - now.kids[one].rained[field];
            have[1] += then.kids[other].rained[field] - now.kids[other].rained[field];
        }
        return have;
    }

    private List<Integer> allRests(int one, int other) {
        List<Integer> all = new ArrayList<>();
        for (int first = 0; first < 5; first++) {
            for (int second = 0; second < 5; second++) {
                int[] have = both(one, other, first, second);
                boolean rests = true;
                for (int way = 0; way < 5; way++) {
                    rests &= both(one, other, way, second)[0] <= have[0] && both(one, other, first, way)[1] <= have[1];
                }
                if (rests) {
                    all.add(10 * first + second);
                }
            }
        }
        return all;
    }

    public int rests(int one, int other) {
        return noChild(one) || noChild(other) || one == other ? NONE : allRests(one, other).size();
    }

    public int rest(int one, int other, int k) {
        return noChild(one) || noChild(other) || one == other ? NONE : of(allRests(one, other), k);
    }

    private int add(Note note) {
        if (notes.size() == 24) {
            return NONE;
        }
        notes.add(note);
        return notes.size() - 1;
    }

    public int note(int hours, int x, int y, boolean is) {
        return hours < 1 || hours > 40 || !cell(x, y) ? NONE : add(new Note(hours, x, y, is, NONE));
    }

    /** Not of the face: whether a note of that would be so as the text tells it. */
    boolean was(int hours, int x, int y) {
        return hours >= 1 && hours <= 40 && new World(story).hours(hours).in(x, y) != 0;
    }

    public int out(int note) {
        return note < 0 || note >= notes.size() ? NONE : add(new Note(0, 0, 0, false, note));
    }

    public boolean known(int n) {
        if (n < -1 || n > notes.size()) {
            return false;
        }
        known = n;
        return true;
    }

    private int knownNow() {
        return known == NONE ? notes.size() : known;
    }

    /** Struck, if one behind it among the known ones strikes it that isn't struck itself. */
    private boolean struck(int note) {
        for (int i = note + 1; i < knownNow(); i++) {
            if (notes.get(i).strikes == note && !struck(i)) {
                return true;
            }
        }
        return false;
    }

    public int sizes(int cloud) {
        if (noCloud(cloud)) {
            return NONE;
        }
        int bits = 0;
        for (int size = 1; size <= 9; size++) {
            World told = new World(story);
            told.puffs[cloud].size = size;
            boolean so = true;
            for (int hour = 1; hour <= 40; hour++) {
                told.hours(1);
                for (int i = 0; i < knownNow(); i++) {
                    Note note = notes.get(i);
                    if (note.hours == hour && !struck(i)) {
                        so &= told.in(note.x, note.y) != 0 == note.is;
                    }
                }
            }
            bits += so ? 1 << size : 0;
        }
        return bits;
    }

    public int chance(int seed, int n, int field, int rain) {
        if (seed < 0 || n < 1 || n > 60 || noField(field) || rain < 0 || rain > 999) {
            return NONE;
        }
        BigInteger last = BigInteger.valueOf(seed);
        int times = 0;
        for (int time = 0; time < 10; time++) {
            World then = now.copy();
            for (int i = 0; i < n; i++) {
                last = last.multiply(BigInteger.valueOf(1103515245)).add(BigInteger.valueOf(12345)).mod(BigInteger.ONE.shiftLeft(31));
                then.hour(last.divide(BigInteger.valueOf(65536)).mod(BigInteger.valueOf(5)).intValue());
            }
            times += then.got[field] - now.got[field] >= rain ? 1 : 0;
        }
        return times;
    }

    public int tried(int what, int i, int n) {
        if (what < 0 || what > 5 || n < 0 || n > 60 || (what == 2 ? noCloud(i) : i != 0)) {
            return NONE;
        }
        World then = now.copy();
        then.tried = what;
        if (what == 2) {
            then.puffs[i].fate = Fate.JOINED;
        }
        return then.hours(n).rain() - now.rain();
    }

    public int undo() {
        if (before.isEmpty()) {
            return NONE;
        }
        now = before.remove(before.size() - 1);
        return before.size();
    }

    public int keep() {
        image = now.copy();
        return now.hour;
    }

    public int back() {
        if (image == null) {
            return NONE;
        }
        now = image.copy();
        before.clear();
        return now.hour;
    }

    public int count(int what) {
        int[] all = {story.fields.size(), story.clouds.size(), story.children.size(), story.winds.size(), story.knots, now.hour,
            now.wind(), now.all(Fate.SKY), now.all(Fate.COMES), now.all(Fate.LOST), now.rain(), now.marks(), notes.size(),
            knownNow(), before.size()};
        return what >= 0 && what < all.length ? all[what] : NONE;
    }

    enum Fate { COMES, SKY, LOST, JOINED, OVER }

    record Field(String name, int x, int y, int need) {
    }

    record Cloud(String name, int x, int y, int size, int born) {
    }

    record Child(String name, int x, int y, int sight) {
    }

    /** What a text tells. */
    static final class Story {
        final int[][] ground = new int[6][4];
        final List<Field> fields = new ArrayList<>();
        final List<Cloud> clouds = new ArrayList<>();
        final List<Child> children = new ArrayList<>();
        final List<Integer> winds = new ArrayList<>();
        final Map<String, Integer> told = new HashMap<>();
        final Map<String, Knot> laws = new HashMap<>();
        int knots = 0;
        int lines = 0;

        int most() {
            return told.getOrDefault("most", 9);
        }

        int rain() {
            return told.getOrDefault("rain", 6);
        }
    }

    static final class Puff {
        int x;
        int y;
        int size;
        int age;
        int child = NONE;
        Fate fate = Fate.COMES;

        boolean up() {
            return fate == Fate.SKY;
        }

        Puff copy() {
            Puff other = new Puff();
            other.x = x;
            other.y = y;
            other.size = size;
            other.age = age;
            other.child = child;
            other.fate = fate;
            return other;
        }
    }

    static final class Kid {
        int x;
        int y;
        int sight;
        int marks;
        int[] rained = new int[5];

        Kid copy() {
            Kid other = new Kid();
            other.x = x;
            other.y = y;
            other.sight = sight;
            other.marks = marks;
            other.rained = rained.clone();
            return other;
        }
    }

    /** What changes. */
    static final class World {
        final Story story;
        final Puff[] puffs;
        final Kid[] kids;
        final int[] got = new int[5];
        int hour = 0;
        int call = NONE;
        int tried = 0;

        World(Story story) {
            this.story = story;
            puffs = new Puff[story.clouds.size()];
            for (int i = 0; i < puffs.length; i++) {
                puffs[i] = new Puff();
                puffs[i].x = story.clouds.get(i).x;
                puffs[i].y = story.clouds.get(i).y;
                puffs[i].size = story.clouds.get(i).size;
            }
            kids = new Kid[story.children.size()];
            for (int i = 0; i < kids.length; i++) {
                kids[i] = new Kid();
                kids[i].x = story.children.get(i).x;
                kids[i].y = story.children.get(i).y;
                kids[i].sight = story.children.get(i).sight;
            }
        }

        World copy() {
            World other = new World(story);
            for (int i = 0; i < puffs.length; i++) {
                other.puffs[i] = puffs[i].copy();
            }
            for (int i = 0; i < kids.length; i++) {
                other.kids[i] = kids[i].copy();
            }
            System.arraycopy(got, 0, other.got, 0, 5);
            other.hour = hour;
            other.call = call;
            other.tried = tried;
            return other;
        }

        int wind() {
            if (tried == 1) {
                return 0;
            }
            if (call >= 0) {
                return call;
            }
            return story.winds.isEmpty() ? 0 : story.winds.get(hour % story.winds.size());
        }

        int ground(Puff puff) {
            int told = story.ground[puff.x][puff.y];
            return tried == 5 ? 1 : tried == 3 && told == 2 ? 0 : told;
        }

        int far(int child, int cloud) {
            return Math.max(Math.abs(kids[child].x - puffs[cloud].x), Math.abs(kids[child].y - puffs[cloud].y));
        }

        boolean sees(int child, int cloud) {
            return far(child, cloud) <= kids[child].sight;
        }

        int in(int x, int y) {
            int bits = 0;
            for (int i = 0; i < puffs.length; i++) {
                bits += puffs[i].up() && puffs[i].x == x && puffs[i].y == y ? 1 << i : 0;
            }
            return bits;
        }

        int load(int child) {
            int many = 0;
            for (Puff puff : puffs) {
                many += puff.up() && puff.child == child ? 1 : 0;
            }
            return many;
        }

        int all(Fate fate) {
            int many = 0;
            for (Puff puff : puffs) {
                many += puff.fate == fate ? 1 : 0;
            }
            return many;
        }

        int rain() {
            return got[0] + got[1] + got[2] + got[3] + got[4];
        }

        int marks() {
            int sum = 0;
            for (Kid kid : kids) {
                sum += kid.marks;
            }
            return sum;
        }

        int firstOf(int child) {
            for (int i = 0; i < puffs.length; i++) {
                if (puffs[i].up() && puffs[i].child == child && sees(child, i)) {
                    return i;
                }
            }
            return -1;
        }

        void push(int child, int way) {
            if (firstOf(child) >= 0) {
                move(puffs[firstOf(child)], way);
            }
        }

        void move(Puff puff, int way) {
            int x = puff.x + new int[] {0, 1, 0, -1, 0}[way];
            int y = puff.y + new int[] {0, 0, 1, 0, -1}[way];
            if (cell(x, y)) {
                puff.x = x;
                puff.y = y;
            } else {
                puff.fate = Fate.LOST;
            }
        }

        /** What a law says of a cloud; null with an error, or without the law. */
        Long law(String rule, int cloud) {
            Knot knot = story.laws.get(rule);
            if (knot == null) {
                return null;
            }
            Puff puff = puffs[cloud];
            Map<String, Integer> names = new HashMap<>();
            names.put("size", puff.size);
            names.put("ground", ground(puff));
            names.put("age", puff.age);
            names.put("far", puff.child < 0 ? 99 : far(puff.child, cloud));
            names.put("many", all(Fate.SKY));
            names.put("marks", puff.child < 0 ? 0 : kids[puff.child].marks);
            names.put("hour", hour);
            BigInteger worth = knot.worth(names);
            return worth == null ? null : worth.longValueExact();
        }

        int held(Long worth, int most, int without) {
            return worth == null ? without : worth < 0 ? 0 : worth > most ? most : (int) (long) worth;
        }

        World hours(int n) {
            for (int i = 0; i < n; i++) {
                hour(wind());
            }
            return this;
        }

        void hour(int wind) {
            for (int i = 0; i < puffs.length; i++) {
                if (puffs[i].fate == Fate.COMES && story.clouds.get(i).born == hour) {
                    puffs[i].fate = Fate.SKY;
                }
            }
            for (Puff puff : puffs) {
                if (puff.up()) {
                    move(puff, wind);
                }
            }
            for (int i = 0; i < puffs.length; i++) {
                if (puffs[i].up()) {
                    puffs[i].size = Math.min(20, puffs[i].size + held(law("grow", i), 9, ground(puffs[i]) == 1 ? 1 : 0));
                }
            }
            for (int i = 0; i < puffs.length && tried != 4; i++) {
                for (int k = i + 1; k < puffs.length; k++) {
                    join(puffs[i], puffs[k]);
                }
            }
            for (int i = 0; i < puffs.length; i++) {
                if (puffs[i].up() && (puffs[i].size >= story.rain() || ground(puffs[i]) == 2)) {
                    rainFrom(puffs[i], held(law("fall", i), puffs[i].size, Math.max(1, puffs[i].size / 2)));
                }
            }
            for (int i = 0; i < puffs.length; i++) {
                if (puffs[i].up() && puffs[i].child < 0) {
                    give(i);
                }
            }
            for (int child = 0; child < kids.length; child++) {
                for (int i = 0; i < puffs.length; i++) {
                    if (puffs[i].up() && puffs[i].child == child) {
                        kids[child].marks += held(law("mark", i), 9, sees(child, i) ? 1 : 0);
                    }
                }
            }
            for (Puff puff : puffs) {
                puff.age += puff.up() ? 1 : 0;
            }
            hour++;
        }

        void join(Puff a, Puff b) {
            if (a.up() && b.up() && a.x == b.x && a.y == b.y) {
                int both = Math.min(20, a.size + b.size);
                if (a.size >= b.size) {
                    a.size = both;
                    b.fate = Fate.JOINED;
                } else {
                    b.size = both;
                    a.fate = Fate.JOINED;
                }
            }
        }

        void rainFrom(Puff puff, int much) {
            for (int i = 0; i < story.fields.size(); i++) {
                if (story.fields.get(i).x == puff.x && story.fields.get(i).y == puff.y) {
                    got[i] += much;
                    if (puff.child >= 0) {
                        kids[puff.child].rained[i] += much;
                    }
                }
            }
            puff.size -= much;
            if (puff.size == 0) {
                puff.fate = Fate.OVER;
            }
        }

        void give(int cloud) {
            for (int many = 0; many < story.most(); many++) {
                for (int child = 0; child < kids.length; child++) {
                    if (load(child) == many && sees(child, cloud)) {
                        puffs[cloud].child = child;
                        return;
                    }
                }
            }
        }
    }

    /** A law's knot; a sign's two sides, a not's one. */
    static final class Knot {
        final String sign;
        final Knot left;
        final Knot right;

        Knot(String sign, Knot left, Knot right) {
            this.sign = sign;
            this.left = left;
            this.right = right;
        }

        /** null: an ERROR. */
        BigInteger worth(Map<String, Integer> names) {
            BigInteger a = left == null ? BigInteger.ZERO : left.worth(names);
            BigInteger b = right == null ? BigInteger.ZERO : right.worth(names);
            if (a == null || b == null) {
                return null;
            }
            BigInteger value = value(names, a, b);
            return value == null || value.abs().compareTo(BigInteger.TEN.pow(12)) > 0 ? null : value;
        }

        private BigInteger value(Map<String, Integer> names, BigInteger a, BigInteger b) {
            boolean isA = a.signum() != 0;
            boolean isB = b.signum() != 0;
            int order = a.compareTo(b);
            switch (sign) {
                case "+": return a.add(b);
                case "-": return a.subtract(b);
                case "*": return a.multiply(b);
                case "/": return isB ? a.divide(b) : null;
                case "<": return truth(order < 0);
                case "<=": return truth(order <= 0);
                case "=": return truth(order == 0);
                case "<>": return truth(order != 0);
                case ">=": return truth(order >= 0);
                case ">": return truth(order > 0);
                case "and": return truth(isA && isB);
                case "or": return truth(isA || isB);
                case "not": return truth(!isA);
                default: return names.containsKey(sign) ? BigInteger.valueOf(names.get(sign)) : new BigInteger(sign);
            }
        }

        private static BigInteger truth(boolean is) {
            return is ? BigInteger.ONE : BigInteger.ZERO;
        }
    }
}
