import java.util.NoSuchElementException;

/** Each child a cloud: a small sky told as a text, the hours that go by in it, and what may be asked of them. */
public final class CloudSchool {
    public static final int NONE = -1;

    private static final int TOO_FEW = -2;
    private static final int WIDE = 6;
    private static final int HIGH = 4;
    private static final int CELLS = 24;
    private static final int WATER_GROUND = 1;
    private static final int HILL_GROUND = 2;

    private static final int MOST_BYTES = 700;
    private static final int MOST_FIELDS = 5;
    private static final int MOST_CLOUDS = 8;
    private static final int MOST_CHILDREN = 6;
    private static final int MOST_WINDS = 12;
    private static final int MOST_KNOTS = 64;
    private static final int MOST_OPEN = 8;
    private static final int MOST_NOTES = 24;
    private static final int MOST_DEEDS = 20;
    private static final int MOST_SIZE = 20;
    private static final int MOST_BORN_SIZE = 9;
    private static final int MOST_MORE = 9;
    private static final int MOST_AHEAD = 60;
    private static final int MOST_ENOUGH = 99;
    private static final int MOST_LIKELY = 5;
    private static final int MOST_PLAN = 4;
    private static final int MOST_NOTE_HOURS = 40;
    private static final int LAST_HOUR = 999;
    private static final int WAYS = 5;
    private static final int FAR_WITHOUT = 99;
    private static final int RAIN_UNTOLD = 6;
    private static final int MOST_UNTOLD = 9;

    private static final int TO_COME = 0;
    private static final int IN_SKY = 1;
    private static final int LOST = 2;
    private static final int JOINED = 3;
    private static final int OVER = 4;

    private static final int GROW_LAW = 0;
    private static final int FALL_LAW = 1;
    private static final int MARK_LAW = 2;
    private static final int LAWS = 3;
    private static final long ERROR = Long.MIN_VALUE;
    private static final long MOST_VALUE = 1000000000000L;

    private static final int AS_IT_GOES = 0;
    private static final int NO_WIND = 1;
    private static final int NO_CLOUD = 2;
    private static final int NO_HILLS = 3;
    private static final int NO_JOINS = 4;
    private static final int ALL_WATER = 5;

    private static final int DRAWS = 10;
    private static final int MOST_DRAWN_RAIN = 999;

    /** The words of the language, six places each; a word's token is its number here. */
    private static final String WORDS =
        "water hill  field cloud child wind  rain  most  seed  law   grow  fall  mark  or    and   not   size  groundage   far   many  marks hour  ";
    private static final int WORD_PLACES = 6;
    private static final int WORD_COUNT = 23;

    private static final int WATER = 0;
    private static final int HILL = 1;
    private static final int FIELD = 2;
    private static final int CLOUD = 3;
    private static final int CHILD = 4;
    private static final int WIND = 5;
    private static final int RAIN = 6;
    private static final int MOST = 7;
    private static final int SEED = 8;
    private static final int LAW = 9;
    private static final int GROW = 10;
    private static final int MARK = 12;
    private static final int OR = 13;
    private static final int AND = 14;
    private static final int NOT = 15;
    private static final int SIZE = 16;
    private static final int GROUND = 17;
    private static final int AGE = 18;
    private static final int FAR = 19;
    private static final int MANY = 20;
    private static final int MARKS = 21;
    private static final int HOUR = 22;
    private static final int PLUS = 23;
    private static final int MINUS = 24;
    private static final int TIMES = 25;
    private static final int BY = 26;
    private static final int LESS = 27;
    private static final int LESS_OR_LIKE = 28;
    private static final int LIKE = 29;
    private static final int UNLIKE = 30;
    private static final int MORE_OR_LIKE = 31;
    private static final int MORE = 32;
    private static final int OPEN = 33;
    private static final int SHUT = 34;
    private static final int LINE_END = 35;
    private static final int OWN_WORD = 36;
    private static final int NUMBER = 37;
    private static final int TEXT_END = 38;
    private static final int NO_TOKEN = 39;

    private final byte[] tape = new byte[MOST_BYTES];
    private int taped = 0;
    private final Reader reader = new Reader();
    private Told told = new Told();
    private final Sky now = new Sky(told);
    private final Sky image = new Sky(told);
    private boolean imageKept = false;
    private final Deeds deeds = new Deeds();
    private final Notes notes = new Notes();
    private final Future future = new Future(told);

    public CloudSchool() {
    }

    public int feed(int a, int b, int c, int d, int e) {
        if (taped + 20 > MOST_BYTES) {
            return NONE;
        }
        putFour(a);
        putFour(b);
        putFour(c);
        putFour(d);
        putFour(e);
        return taped;
    }

    private void putFour(int number) {
        for (int shift = 24; shift >= 0 && taped < MOST_BYTES; shift -= 8) {
            tape[taped] = (byte) (number >> shift);
            taped++;
        }
    }

    public int text(int n) {
        if (n < 0 || n > taped) {
            return TOO_FEW;
        }
        taped = 0;
        int lines = reader.readText(tape, n);
        if (lines == NONE) {
            return NONE;
        }
        told = reader.takeTold(told);
        now.startOf(told);
        notes.forget();
        deeds.forget();
        imageKept = false;
        return lines;
    }

    public int fault(int what) {
        if (what == 0) {
            return reader.fault;
        }
        return what == 1 ? reader.faultPlace : NONE;
    }

    public int named(int what, int letters) {
        if (what == 0) {
            return numberOf(told.fieldName, told.fields, letters);
        }
        if (what == 1) {
            return numberOf(told.cloudName, told.clouds, letters);
        }
        return what == 2 ? numberOf(told.childName, told.children, letters) : NONE;
    }

    private static int numberOf(int[] names, int many, int letters) {
        for (int i = 0; i < many && i < names.length; i++) {
            if (names[i] == letters) {
                return i;
            }
        }
        return NONE;
    }

    private boolean isCloud(int cloud) {
        return cloud >= 0 && cloud < told.clouds;
    }

    private boolean isChild(int child) {
        return child >= 0 && child < told.children;
    }

    private boolean isField(int field) {
        return field >= 0 && field < told.fields;
    }

    private static boolean isCell(int x, int y) {
        return x >= 0 && x < WIDE && y >= 0 && y < HIGH;
    }

    private static boolean isFrom(int least, int number, int most) {
        return number >= least && number <= most;
    }

    public int cloud(int cloud, int what) throws IndexOutOfBoundsException, NoSuchElementException {
        if (!isCloud(cloud)) {
            throw new IndexOutOfBoundsException();
        }
        switch (what) {
            case 0:
                return now.x[cloud];
            case 1:
                return now.y[cloud];
            case 2:
                return now.size[cloud];
            case 3:
                return now.age[cloud];
            case 4:
                return now.owner[cloud];
            case 5:
                return now.state[cloud];
            default:
                throw new NoSuchElementException();
        }
    }

    public int child(int child, int what) {
        if (!isChild(child)) {
            return NONE;
        }
        switch (what) {
            case 0:
                return now.childX[child];
            case 1:
                return now.childY[child];
            case 2:
                return told.sight[child];
            case 3:
                return now.marks[child];
            case 4:
                return now.ownInSky(child);
            case 5:
                return now.rainOfOwn(child);
            default:
                return NONE;
        }
    }

    public int field(int field, int what) {
        if (!isField(field)) {
            return NONE;
        }
        switch (what) {
            case 0:
                return told.fieldCell[field] % WIDE;
            case 1:
                return told.fieldCell[field] / WIDE;
            case 2:
                return told.need[field];
            case 3:
                return now.got[field];
            default:
                return NONE;
        }
    }

    public int ground(int x, int y) {
        return isCell(x, y) ? now.groundAt(x, y) : NONE;
    }

    public int sees(int child) {
        return isChild(child) ? now.seenBy(child) : NONE;
    }

    public int in(int x, int y) {
        return isCell(x, y) ? now.cloudsAt(x, y) : NONE;
    }

    public long law(int what, int cloud) {
        if (!isFrom(0, what, LAWS - 1) || !isCloud(cloud) || now.state[cloud] != IN_SKY) {
            return ERROR;
        }
        return now.worthOf(what, cloud);
    }

    public int push(int child, int way) {
        if (!isChild(child) || !isFrom(1, way, WAYS - 1)) {
            return NONE;
        }
        int cloud = now.firstToPush(child);
        if (cloud == NONE) {
            return TOO_FEW;
        }
        deeds.remember(Deeds.PUSHED, cloud, now.x[cloud], now.y[cloud]);
        now.moveCloud(cloud, way);
        return cloud;
    }

    public boolean give(int cloud, int child) {
        if (!isCloud(cloud) || now.state[cloud] != IN_SKY || (child != NONE && !isChild(child))) {
            return false;
        }
        if (now.owner[cloud] == child) {
            return false;
        }
        deeds.remember(Deeds.GIVEN, cloud, now.owner[cloud], 0);
        now.owner[cloud] = child;
        return true;
    }

    public boolean stand(int child, int x, int y) {
        if (!isChild(child) || !isCell(x, y)) {
            return false;
        }
        if (now.childX[child] == x && now.childY[child] == y) {
            return false;
        }
        deeds.remember(Deeds.SENT, child, now.childX[child], now.childY[child]);
        now.childX[child] = x;
        now.childY[child] = y;
        return true;
    }

    public boolean blow(int wind) {
        if (!isFrom(NONE, wind, WAYS - 1) || now.blown == wind) {
            return false;
        }
        deeds.remember(Deeds.BLOWN, 0, now.blown, 0);
        now.blown = wind;
        return true;
    }

    public int go(int n) {
        if (!isFrom(0, n, 99) || now.hour + n > LAST_HOUR) {
            return NONE;
        }
        if (n > 0) {
            deeds.forget();
        }
        for (int i = 0; i < n; i++) {
            now.passHour(now.windNow());
        }
        return now.hour;
    }

    public int ahead(int n, int what) {
        if (!isFrom(0, n, MOST_AHEAD) || !isFrom(0, what, 3)) {
            return NONE;
        }
        Sky then = future.skyAfter(now, AS_IT_GOES, 0, n);
        switch (what) {
            case 0:
                return then.rainInAll() - now.rainInAll();
            case 1:
                return then.howManyAre(IN_SKY);
            case 2:
                return then.marksInAll() - now.marksInAll();
            default:
                return then.howManyAre(LOST) - now.howManyAre(LOST);
        }
    }

    /**
     * By the least cut: those of some children who have as many as they may, and all that the others see.
     */
    public int could() {
        int best = MOST_CLOUDS;
        for (int full = 0; full < 1 << told.children; full++) {
            int seen = 0;
            for (int child = 0; child < told.children; child++) {
                if ((full >> child & 1) == 0) {
                    seen |= now.seenBy(child);
                }
            }
            best = Math.min(best, told.most * Integer.bitCount(full) + Integer.bitCount(seen));
        }
        return best;
    }

    public int station(int child, int n, int what) {
        if (!isChild(child) || !isFrom(1, n, MOST_AHEAD) || !isFrom(0, what, 1)) {
            return NONE;
        }
        int cell = future.stationOf(now, child, n);
        return what == 0 ? cell : future.seenFrom(cell);
    }

    public int lacks() {
        int bits = 0;
        for (int field = 0; field < told.fields; field++) {
            if (now.lacksRain(field)) {
                bits |= 1 << field;
            }
        }
        return bits;
    }

    public int enough(int field) {
        return isField(field) ? future.hoursUntilEnough(now, field) : NONE;
    }

    public int whose(int field) {
        if (!isField(field)) {
            return NONE;
        }
        int best = TOO_FEW;
        int most = 0;
        for (int child = 0; child < told.children; child++) {
            if (now.rainedBy[child][field] > most) {
                most = now.rainedBy[child][field];
                best = child;
            }
        }
        return best;
    }

    public int swaps() {
        int many = 0;
        for (int first = 0; first < told.clouds; first++) {
            for (int second = first + 1; second < told.clouds; second++) {
                if (now.wouldSwap(first, second)) {
                    many++;
                }
            }
        }
        return many;
    }

    public int swap(int k) {
        if (k < 0) {
            return NONE;
        }
        int left = k;
        for (int first = 0; first < told.clouds; first++) {
            for (int second = first + 1; second < told.clouds; second++) {
                if (now.wouldSwap(first, second)) {
                    if (left == 0) {
                        return 10 * first + second;
                    }
                    left--;
                }
            }
        }
        return TOO_FEW;
    }

    public int likely(int field, int n, int what) {
        if (!isField(field) || !isFrom(1, n, MOST_LIKELY) || !isFrom(0, what, 1)) {
            return NONE;
        }
        int above = future.rowsWithRain(now, field, n);
        int below = Future.rowsOf(n);
        for (int i = 0; i < n && above % WAYS == 0; i++) {
            above /= WAYS;
            below /= WAYS;
        }
        return what == 0 ? above : below;
    }

    public int plan(int child, int field, int n) {
        if (!isChild(child) || !isField(field) || !isFrom(1, n, MOST_PLAN)) {
            return NONE;
        }
        return future.planOf(now, child, field, n);
    }

    public int step(int child, int field, int n, int k) {
        if (!isChild(child) || !isField(field) || !isFrom(1, n, MOST_PLAN) || k < 0) {
            return NONE;
        }
        if (k >= n) {
            return TOO_FEW;
        }
        future.planOf(now, child, field, n);
        return future.plannedPush(k);
    }

    public int rests(int one, int other) {
        if (!isChild(one) || !isChild(other) || one == other) {
            return NONE;
        }
        future.tryBoth(now, one, other);
        int many = 0;
        for (int pair = 0; pair < WAYS * WAYS; pair++) {
            if (future.isRest(pair)) {
                many++;
            }
        }
        return many;
    }

    public int rest(int one, int other, int k) {
        if (!isChild(one) || !isChild(other) || one == other || k < 0) {
            return NONE;
        }
        future.tryBoth(now, one, other);
        int left = k;
        for (int pair = 0; pair < WAYS * WAYS; pair++) {
            if (future.isRest(pair)) {
                if (left == 0) {
                    return 10 * (pair / WAYS) + pair % WAYS;
                }
                left--;
            }
        }
        return TOO_FEW;
    }

    public int note(int hours, int x, int y, boolean is) {
        if (!isFrom(1, hours, MOST_NOTE_HOURS) || !isCell(x, y)) {
            return NONE;
        }
        return notes.add(hours, x, y, is);
    }

    public int out(int note) {
        return isFrom(0, note, notes.written - 1) ? notes.addStrike(note) : NONE;
    }

    public boolean known(int n) {
        if (!isFrom(NONE, n, notes.written)) {
            return false;
        }
        notes.knownBy = n;
        return true;
    }

    public int sizes(int cloud) {
        if (!isCloud(cloud)) {
            return NONE;
        }
        notes.strikeOut();
        int bits = 0;
        for (int size = 1; size <= MOST_BORN_SIZE; size++) {
            if (future.agrees(told, notes, cloud, size)) {
                bits |= 1 << size;
            }
        }
        return bits;
    }

    public int chance(int seed, int n, int field, int rain) {
        if (seed < 0 || !isFrom(1, n, MOST_AHEAD) || !isField(field) || !isFrom(0, rain, MOST_DRAWN_RAIN)) {
            return NONE;
        }
        future.drawFrom(seed);
        int times = 0;
        for (int i = 0; i < DRAWS; i++) {
            if (future.rainByChance(now, n, field) >= rain) {
                times++;
            }
        }
        return times;
    }

    public int tried(int what, int i, int n) {
        if (!isFrom(AS_IT_GOES, what, ALL_WATER) || !isFrom(0, n, MOST_AHEAD)) {
            return NONE;
        }
        if (what == NO_CLOUD ? !isCloud(i) : i != 0) {
            return NONE;
        }
        return future.skyAfter(now, what, i, n).rainInAll() - now.rainInAll();
    }

    public int undo() {
        if (deeds.done == 0) {
            return NONE;
        }
        deeds.undoLatest(now);
        return deeds.done;
    }

    public int keep() {
        image.copyFrom(now);
        imageKept = true;
        return now.hour;
    }

    public int back() {
        if (!imageKept) {
            return NONE;
        }
        now.copyFrom(image);
        deeds.forget();
        return now.hour;
    }

    public int count(int what) {
        switch (what) {
            case 0:
                return told.fields;
            case 1:
                return told.clouds;
            case 2:
                return told.children;
            case 3:
                return told.winds;
            case 4:
                return told.laws.counted;
            case 5:
                return now.hour;
            case 6:
                return now.windNow();
            case 7:
                return now.howManyAre(IN_SKY);
            case 8:
                return now.howManyAre(TO_COME);
            case 9:
                return now.howManyAre(LOST);
            case 10:
                return now.rainInAll();
            case 11:
                return now.marksInAll();
            case 12:
                return notes.written;
            case 13:
                return notes.readable();
            case 14:
                return deeds.done;
            default:
                return NONE;
        }
    }

    /** What the text tells; nothing of it changes as hours go by. */
    private static final class Told {
        final int[] cellGround = new int[CELLS];
        final int[] fieldName = new int[MOST_FIELDS];
        final int[] fieldCell = new int[MOST_FIELDS];
        final int[] need = new int[MOST_FIELDS];
        final int[] cloudName = new int[MOST_CLOUDS];
        final int[] cloudCell = new int[MOST_CLOUDS];
        final int[] bornSize = new int[MOST_CLOUDS];
        final int[] bornAt = new int[MOST_CLOUDS];
        final int[] childName = new int[MOST_CHILDREN];
        final int[] childCell = new int[MOST_CHILDREN];
        final int[] sight = new int[MOST_CHILDREN];
        final int[] windRow = new int[MOST_WINDS];
        final Laws laws = new Laws();
        int fields = 0;
        int clouds = 0;
        int children = 0;
        int winds = 0;
        int rain = RAIN_UNTOLD;
        int most = MOST_UNTOLD;

        void forget() {
            for (int cell = 0; cell < CELLS; cell++) {
                cellGround[cell] = 0;
            }
            laws.forget();
            fields = 0;
            clouds = 0;
            children = 0;
            winds = 0;
            rain = RAIN_UNTOLD;
            most = MOST_UNTOLD;
        }
    }

    /** The laws' knots, each law's in a row with both sides ahead of their sign. */
    private static final class Laws {
        /** Numbers as they are, names and signs as the complement of their token. */
        private final int[] knot = new int[MOST_KNOTS];
        private final int[] from = new int[LAWS];
        private final int[] to = new int[LAWS];
        private final long[] stack = new long[MOST_KNOTS];
        private int placed = 0;
        int counted = 0;

        void forget() {
            for (int law = 0; law < LAWS; law++) {
                from[law] = 0;
                to[law] = 0;
            }
            placed = 0;
            counted = 0;
        }

        boolean isTold(int law) {
            return from[law] < to[law];
        }

        void open(int law) {
            from[law] = placed;
        }

        void place(int code) {
            if (placed < MOST_KNOTS) {
                knot[placed] = code;
                placed++;
            }
        }

        void close(int law) {
            to[law] = placed;
        }

        /** A law's value by what the names stand for; ERROR without such a law, too. */
        long worth(int law, int[] names) {
            int top = 0;
            for (int k = from[law]; k < to[law]; k++) {
                int token = ~knot[k];
                long value = knot[k];
                if (token >= SIZE && token <= HOUR) {
                    value = names[token - SIZE];
                } else if (token == NOT && top >= 1) {
                    top--;
                    value = stack[top] == 0 ? 1 : 0;
                } else if (token >= 0 && top >= 2) {
                    top -= 2;
                    value = combined(token, stack[top], stack[top + 1]);
                }
                if (value > MOST_VALUE || value < -MOST_VALUE || top >= MOST_KNOTS) {
                    return ERROR;
                }
                stack[top] = value;
                top++;
            }
            return top == 1 ? stack[0] : ERROR;
        }

        /** A product is looked at by division first: that of two values may not fit a long. */
        private static long combined(int sign, long a, long b) {
            long large = a < 0 ? -a : a;
            long other = b < 0 ? -b : b;
            switch (sign) {
                case PLUS:
                    return a + b;
                case MINUS:
                    return a - b;
                case TIMES:
                    return large != 0 && other > MOST_VALUE / large ? ERROR : a * b;
                case BY:
                    return b == 0 ? ERROR : a / b;
                case LESS:
                    return a < b ? 1 : 0;
                case LESS_OR_LIKE:
                    return a <= b ? 1 : 0;
                case LIKE:
                    return a == b ? 1 : 0;
                case UNLIKE:
                    return a != b ? 1 : 0;
                case MORE_OR_LIKE:
                    return a >= b ? 1 : 0;
                case MORE:
                    return a > b ? 1 : 0;
                case AND:
                    return a != 0 && b != 0 ? 1 : 0;
                default:
                    return a != 0 || b != 0 ? 1 : 0;
            }
        }
    }

    /** Reads a text, and tells its first fault. Behind a fault no token comes any more, so that all reading ends. */
    private static final class Reader {
        private static final int WRONG = 1;
        private static final int TOO_MUCH = 2;
        private static final int AGAIN = 3;
        /** How firmly a comparison binds. */
        private static final int COMPARED = 4;

        private final int[] wordLetters = new int[WORD_COUNT];
        private byte[] bytes = new byte[0];
        private int length;
        private int next;
        private int token;
        private int place;
        private int number;
        private int letters;
        private int numberPlace;
        private int toldOnce;
        private Told told = new Told();
        /** Signs, not and '(' of a law whose right sides are still to come. */
        private final int[] waiting = new int[MOST_KNOTS + MOST_OPEN];
        private int waits;
        private int opened;
        int fault = 0;
        int faultPlace = NONE;

        Reader() {
            for (int word = 0; word < WORD_COUNT; word++) {
                int packed = 0;
                for (int i = 0; i < WORD_PLACES; i++) {
                    char c = WORDS.charAt(word * WORD_PLACES + i);
                    packed = packed << 5 | (c == ' ' ? 0 : c - 'a' + 1);
                }
                wordLetters[word] = packed;
            }
        }

        /** How many lines there are; NONE with a fault. */
        int readText(byte[] from, int many) {
            told.forget();
            bytes = from;
            length = Math.min(many, from.length);
            next = 0;
            toldOnce = 0;
            fault = 0;
            faultPlace = NONE;
            advance();
            int lines = 0;
            for (int i = 0; i < length && fault == 0 && token != TEXT_END; i++) {
                readLine();
                expect(LINE_END);
                lines++;
            }
            return fault == 0 ? lines : NONE;
        }

        /** What was read last, for one that is read over next time. */
        Told takeTold(Told old) {
            Told taken = told;
            told = old;
            return taken;
        }

        private void failAt(int kind, int where) {
            if (fault == 0) {
                fault = kind;
                faultPlace = where;
                token = NO_TOKEN;
            }
        }

        private void fail(int kind) {
            failAt(kind, place);
        }

        private void expect(int wanted) {
            if (token == wanted) {
                advance();
            } else {
                fail(WRONG);
            }
        }

        private void advance() {
            if (fault != 0) {
                return;
            }
            while (next < length && (bytes[next] == 10 || bytes[next] == 32)) {
                next++;
            }
            place = next;
            if (next >= length) {
                token = TEXT_END;
            } else if (isLetter(bytes[next])) {
                takeWord();
                token = next - place > WORD_PLACES ? NO_TOKEN : wordToken();
            } else if (isDigit(bytes[next])) {
                takeNumber();
                token = NUMBER;
            } else {
                token = signToken(bytes[next], next + 1 < length ? bytes[next + 1] : 0);
                next += token == LESS_OR_LIKE || token == UNLIKE || token == MORE_OR_LIKE ? 2 : 1;
            }
        }

        private static boolean isLetter(int sign) {
            return sign >= 'a' && sign <= 'z';
        }

        private static boolean isDigit(int sign) {
            return sign >= '0' && sign <= '9';
        }

        private void takeWord() {
            letters = 0;
            for (int i = 0; next < length && bytes[next] >= 'a' && bytes[next] <= 'z'; i++) {
                if (i < WORD_PLACES) {
                    letters |= (bytes[next] - 'a' + 1) << 5 * (WORD_PLACES - 1 - i);
                }
                next++;
            }
        }

        private int wordToken() {
            for (int word = 0; word < WORD_COUNT; word++) {
                if (wordLetters[word] == letters) {
                    return word;
                }
            }
            return OWN_WORD;
        }

        /** Held at a million: beyond all that may be told, and far from what an int can't hold. */
        private void takeNumber() {
            number = 0;
            while (next < length && bytes[next] >= '0' && bytes[next] <= '9') {
                int more = number * 10 + bytes[next] - '0';
                number = more > 1000000 ? 1000000 : more;
                next++;
            }
        }

        private static int signToken(int sign, int behind) {
            switch (sign) {
                case '+':
                    return PLUS;
                case '-':
                    return MINUS;
                case '*':
                    return TIMES;
                case '/':
                    return BY;
                case '<':
                    return behind == '=' ? LESS_OR_LIKE : behind == '>' ? UNLIKE : LESS;
                case '=':
                    return LIKE;
                case '>':
                    return behind == '=' ? MORE_OR_LIKE : MORE;
                case '(':
                    return OPEN;
                case ')':
                    return SHUT;
                case ';':
                    return LINE_END;
                default:
                    return NO_TOKEN;
            }
        }

        private void readLine() {
            switch (token) {
                case WATER:
                    readGround(WATER_GROUND);
                    break;
                case HILL:
                    readGround(HILL_GROUND);
                    break;
                case FIELD:
                    readField();
                    break;
                case CLOUD:
                    readCloud();
                    break;
                case CHILD:
                    readChild();
                    break;
                case WIND:
                    readWind();
                    break;
                case RAIN:
                    readRain();
                    break;
                case MOST:
                    readMost();
                    break;
                case SEED:
                    readSeed();
                    break;
                case LAW:
                    readLaw();
                    break;
                default:
                    fail(WRONG);
                    break;
            }
        }

        /** A number of these bounds; NONE with a fault. */
        private int readNumber(int least, int most) {
            if (token != NUMBER) {
                fail(WRONG);
            } else if (number < least || number > most) {
                fail(TOO_MUCH);
            }
            if (fault != 0) {
                return NONE;
            }
            int read = number;
            numberPlace = place;
            advance();
            return read;
        }

        /** X and Y as one number; NONE with a fault. */
        private int readCell() {
            int x = readNumber(0, WIDE - 1);
            int y = readNumber(0, HIGH - 1);
            return fault == 0 ? WIDE * y + x : NONE;
        }

        /** The letters of a name that none of its kind has. */
        private int readName(int[] names, int many) {
            if (token != OWN_WORD) {
                fail(WRONG);
                return 0;
            }
            if (numberOf(names, many, letters) != NONE) {
                fail(AGAIN);
            }
            int read = letters;
            advance();
            return read;
        }

        /** The word of a line of which there may be so many. */
        private boolean hasRoom(int many, int most) {
            if (many >= most) {
                fail(TOO_MUCH);
                return false;
            }
            advance();
            return true;
        }

        /** The word of a line that may be told but once. */
        private void readOnceWord() {
            int bit = 1 << token;
            if ((toldOnce & bit) != 0) {
                fail(AGAIN);
            }
            toldOnce |= bit;
            advance();
        }

        private void readGround(int kind) {
            advance();
            int cell = readCell();
            if (cell < 0 || cell >= CELLS) {
                return;
            }
            if (told.cellGround[cell] != 0) {
                failAt(AGAIN, numberPlace);
            }
            told.cellGround[cell] = kind;
        }

        private void readField() {
            int field = told.fields;
            if (!hasRoom(field, MOST_FIELDS)) {
                return;
            }
            told.fieldName[field] = readName(told.fieldName, field);
            told.fieldCell[field] = readCell();
            told.need[field] = readNumber(0, 99);
            told.fields++;
        }

        private void readCloud() {
            int cloud = told.clouds;
            if (!hasRoom(cloud, MOST_CLOUDS)) {
                return;
            }
            told.cloudName[cloud] = readName(told.cloudName, cloud);
            told.cloudCell[cloud] = readCell();
            told.bornSize[cloud] = readNumber(1, MOST_BORN_SIZE);
            told.bornAt[cloud] = readNumber(0, 99);
            told.clouds++;
        }

        private void readChild() {
            int child = told.children;
            if (!hasRoom(child, MOST_CHILDREN)) {
                return;
            }
            told.childName[child] = readName(told.childName, child);
            told.childCell[child] = readCell();
            told.sight[child] = readNumber(0, 9);
            told.children++;
        }

        private void readWind() {
            int wind = told.winds;
            if (!hasRoom(wind, MOST_WINDS)) {
                return;
            }
            told.windRow[wind] = readNumber(0, WAYS - 1);
            told.winds++;
        }

        private void readRain() {
            readOnceWord();
            told.rain = readNumber(1, 20);
        }

        private void readMost() {
            readOnceWord();
            told.most = readNumber(1, 9);
        }

        /** Not kept: no call draws from it, since chance() brings a seed of its own. */
        private void readSeed() {
            readOnceWord();
            readNumber(0, 99999);
        }

        private void readLaw() {
            advance();
            if (token < GROW || token > MARK) {
                fail(WRONG);
                return;
            }
            int law = token - GROW;
            if (told.laws.isTold(law)) {
                fail(AGAIN);
            }
            advance();
            told.laws.open(law);
            waits = 0;
            opened = 0;
            boolean more = true;
            for (int i = 0; i <= MOST_KNOTS && more; i++) {
                readAheadOfPart();
                readPart();
                more = readSign();
            }
            placeAbove(0);
            told.laws.close(law);
        }

        private void countKnot() {
            if (told.laws.counted >= MOST_KNOTS) {
                fail(TOO_MUCH);
            } else {
                told.laws.counted++;
            }
        }

        private void readAheadOfPart() {
            for (int i = 0; i <= MOST_KNOTS + MOST_OPEN && (token == OPEN || token == NOT); i++) {
                if (token == OPEN) {
                    openOne();
                } else if (mayTurn()) {
                    countKnot();
                } else {
                    fail(WRONG);
                }
                letWait(token);
                advance();
            }
        }

        private void openOne() {
            if (opened >= MOST_OPEN) {
                fail(TOO_MUCH);
            } else {
                opened++;
            }
        }

        /** A not stands ahead of a whole comparison, so never as the right side of a sign. */
        private boolean mayTurn() {
            return waits == 0 || rankOf(waiting[waits - 1]) < COMPARED;
        }

        private void letWait(int sign) {
            if (waits < waiting.length) {
                waiting[waits] = sign;
                waits++;
            }
        }

        private void readPart() {
            if (token == NUMBER) {
                countKnot();
                told.laws.place(readNumber(0, 9999));
            } else if (token >= SIZE && token <= HOUR) {
                told.laws.place(~token);
                countKnot();
                advance();
            } else {
                fail(WRONG);
            }
        }

        /** Whether another part must come. */
        private boolean readSign() {
            for (int i = 0; i < MOST_OPEN && token == SHUT && opened > 0; i++) {
                placeAbove(0);
                waits = Math.max(0, waits - 1);
                opened--;
                advance();
            }
            int rank = rankOf(token);
            if (rank == 0 || token == NOT) {
                if (opened > 0) {
                    fail(WRONG);
                }
                return false;
            }
            placeAbove(rank == COMPARED ? COMPARED : rank - 1);
            if (rank == COMPARED && waits > 0 && rankOf(waiting[waits - 1]) == COMPARED) {
                fail(WRONG);
            } else {
                countKnot();
            }
            letWait(token);
            advance();
            return fault == 0;
        }

        /** What waits and binds more than that has both its sides now; an '(' ends it. */
        private void placeAbove(int rank) {
            while (waits > 0 && rankOf(waiting[waits - 1]) > rank) {
                waits--;
                told.laws.place(~waiting[waits]);
            }
        }

        private static int rankOf(int sign) {
            switch (sign) {
                case OR:
                    return 1;
                case AND:
                    return 2;
                case NOT:
                    return 3;
                case LESS:
                case LESS_OR_LIKE:
                case LIKE:
                case UNLIKE:
                case MORE_OR_LIKE:
                case MORE:
                    return COMPARED;
                case PLUS:
                case MINUS:
                    return 5;
                case TIMES:
                case BY:
                    return 6;
                default:
                    return 0;
            }
        }
    }

    /** All that changes as hours go by. */
    private static final class Sky {
        final int[] x = new int[MOST_CLOUDS];
        final int[] y = new int[MOST_CLOUDS];
        final int[] size = new int[MOST_CLOUDS];
        final int[] age = new int[MOST_CLOUDS];
        final int[] owner = new int[MOST_CLOUDS];
        final int[] state = new int[MOST_CLOUDS];
        final int[] childX = new int[MOST_CHILDREN];
        final int[] childY = new int[MOST_CHILDREN];
        final int[] marks = new int[MOST_CHILDREN];
        final int[] got = new int[MOST_FIELDS];
        final int[][] rainedBy = new int[MOST_CHILDREN][MOST_FIELDS];
        int hour;
        int blown;
        /** How it is tried otherwise. */
        int otherwise;
        private Told told;
        /** What the names of a law stand for. */
        private final int[] names = new int[HOUR - SIZE + 1];

        Sky(Told text) {
            told = text;
            blown = NONE;
        }

        void startOf(Told text) {
            told = text;
            hour = 0;
            blown = NONE;
            otherwise = AS_IT_GOES;
            for (int cloud = 0; cloud < MOST_CLOUDS; cloud++) {
                x[cloud] = text.cloudCell[cloud] % WIDE;
                y[cloud] = text.cloudCell[cloud] / WIDE;
                size[cloud] = text.bornSize[cloud];
                age[cloud] = 0;
                owner[cloud] = NONE;
                state[cloud] = TO_COME;
            }
            for (int child = 0; child < MOST_CHILDREN; child++) {
                childX[child] = text.childCell[child] % WIDE;
                childY[child] = text.childCell[child] / WIDE;
                marks[child] = 0;
                for (int field = 0; field < MOST_FIELDS; field++) {
                    rainedBy[child][field] = 0;
                }
            }
            for (int field = 0; field < MOST_FIELDS; field++) {
                got[field] = 0;
            }
        }

        void copyFrom(Sky other) {
            told = other.told;
            hour = other.hour;
            blown = other.blown;
            otherwise = other.otherwise;
            System.arraycopy(other.x, 0, x, 0, MOST_CLOUDS);
            System.arraycopy(other.y, 0, y, 0, MOST_CLOUDS);
            System.arraycopy(other.size, 0, size, 0, MOST_CLOUDS);
            System.arraycopy(other.age, 0, age, 0, MOST_CLOUDS);
            System.arraycopy(other.owner, 0, owner, 0, MOST_CLOUDS);
            System.arraycopy(other.state, 0, state, 0, MOST_CLOUDS);
            System.arraycopy(other.childX, 0, childX, 0, MOST_CHILDREN);
            System.arraycopy(other.childY, 0, childY, 0, MOST_CHILDREN);
            System.arraycopy(other.marks, 0, marks, 0, MOST_CHILDREN);
            System.arraycopy(other.got, 0, got, 0, MOST_FIELDS);
            for (int child = 0; child < MOST_CHILDREN; child++) {
                System.arraycopy(other.rainedBy[child], 0, rainedBy[child], 0, MOST_FIELDS);
            }
        }

        int windNow() {
            if (otherwise == NO_WIND) {
                return 0;
            }
            if (blown != NONE) {
                return blown;
            }
            return told.winds > 0 ? told.windRow[hour % told.winds] : 0;
        }

        int groundAt(int cellX, int cellY) {
            int cell = WIDE * cellY + cellX;
            if (otherwise == ALL_WATER) {
                return WATER_GROUND;
            }
            int kind = cell >= 0 && cell < CELLS ? told.cellGround[cell] : 0;
            return otherwise == NO_HILLS && kind == HILL_GROUND ? 0 : kind;
        }

        boolean isUp(int cloud) {
            return state[cloud] == IN_SKY;
        }

        int howManyAre(int wanted) {
            int many = 0;
            for (int cloud = 0; cloud < told.clouds; cloud++) {
                if (state[cloud] == wanted) {
                    many++;
                }
            }
            return many;
        }

        int cloudsAt(int cellX, int cellY) {
            int bits = 0;
            for (int cloud = 0; cloud < told.clouds; cloud++) {
                if (isUp(cloud) && x[cloud] == cellX && y[cloud] == cellY) {
                    bits |= 1 << cloud;
                }
            }
            return bits;
        }

        int howFar(int child, int cloud) {
            int wide = childX[child] - x[cloud];
            int high = childY[child] - y[cloud];
            wide = wide < 0 ? -wide : wide;
            high = high < 0 ? -high : high;
            return wide > high ? wide : high;
        }

        boolean canSee(int child, int cloud) {
            return howFar(child, cloud) <= told.sight[child];
        }

        int seenBy(int child) {
            return seenFrom(childX[child], childY[child], told.sight[child]);
        }

        /** Clouds in the sky (bits) no more than so far from a cell. */
        int seenFrom(int cellX, int cellY, int sight) {
            int bits = 0;
            for (int cloud = 0; cloud < told.clouds; cloud++) {
                if (isUp(cloud) && Math.abs(cellX - x[cloud]) <= sight && Math.abs(cellY - y[cloud]) <= sight) {
                    bits |= 1 << cloud;
                }
            }
            return bits;
        }

        int ownInSky(int child) {
            int many = 0;
            for (int cloud = 0; cloud < told.clouds; cloud++) {
                if (isUp(cloud) && owner[cloud] == child) {
                    many++;
                }
            }
            return many;
        }

        int rainOfOwn(int child) {
            int sum = 0;
            for (int field = 0; field < told.fields; field++) {
                sum += rainedBy[child][field];
            }
            return sum;
        }

        int rainInAll() {
            int sum = 0;
            for (int field = 0; field < told.fields; field++) {
                sum += got[field];
            }
            return sum;
        }

        int marksInAll() {
            int sum = 0;
            for (int child = 0; child < told.children; child++) {
                sum += marks[child];
            }
            return sum;
        }

        boolean lacksRain(int field) {
            return got[field] < told.need[field];
        }

        boolean wouldSwap(int first, int second) {
            int one = owner[first];
            int other = owner[second];
            if (!isUp(first) || !isUp(second) || one == NONE || other == NONE || one == other) {
                return false;
            }
            return howFar(one, second) < howFar(one, first) && howFar(other, first) < howFar(other, second);
        }

        int firstToPush(int child) {
            for (int cloud = 0; cloud < told.clouds; cloud++) {
                if (isUp(cloud) && owner[cloud] == child && canSee(child, cloud)) {
                    return cloud;
                }
            }
            return NONE;
        }

        void pushBy(int child, int way) {
            int cloud = firstToPush(child);
            if (cloud != NONE) {
                moveCloud(cloud, way);
            }
        }

        /** Beyond the edge it is lost, and keeps the cell where it was last. */
        void moveCloud(int cloud, int way) {
            int newX = x[cloud] + (way == 1 ? 1 : way == 3 ? -1 : 0);
            int newY = y[cloud] + (way == 2 ? 1 : way == 4 ? -1 : 0);
            if (isCell(newX, newY)) {
                x[cloud] = newX;
                y[cloud] = newY;
            } else {
                state[cloud] = LOST;
            }
        }

        /** A law's value for a cloud now; ERROR without such a law, too. */
        long worthOf(int law, int cloud) {
            if (!told.laws.isTold(law)) {
                return ERROR;
            }
            int child = owner[cloud];
            names[SIZE - SIZE] = size[cloud];
            names[GROUND - SIZE] = groundAt(x[cloud], y[cloud]);
            names[AGE - SIZE] = age[cloud];
            names[FAR - SIZE] = child == NONE ? FAR_WITHOUT : howFar(child, cloud);
            names[MANY - SIZE] = howManyAre(IN_SKY);
            names[MARKS - SIZE] = child == NONE ? 0 : marks[child];
            names[HOUR - SIZE] = hour;
            return told.laws.worth(law, names);
        }

        void passHour(int wind) {
            bearClouds();
            drift(wind);
            growClouds();
            if (otherwise != NO_JOINS) {
                joinClouds();
            }
            rainDown();
            giveOut();
            markChildren();
            for (int cloud = 0; cloud < told.clouds; cloud++) {
                if (isUp(cloud)) {
                    age[cloud]++;
                }
            }
            hour++;
        }

        private void bearClouds() {
            for (int cloud = 0; cloud < told.clouds; cloud++) {
                if (state[cloud] == TO_COME && told.bornAt[cloud] == hour) {
                    state[cloud] = IN_SKY;
                }
            }
        }

        private void drift(int wind) {
            for (int cloud = 0; cloud < told.clouds; cloud++) {
                if (isUp(cloud)) {
                    moveCloud(cloud, wind);
                }
            }
        }

        /** What a law says, held between 0 and so much; other, if it says nothing. */
        private static int bounded(long value, int most, int other) {
            return value == ERROR ? other : (int) Math.max(0, Math.min(most, value));
        }

        private void growClouds() {
            for (int cloud = 0; cloud < told.clouds; cloud++) {
                if (isUp(cloud)) {
                    int other = groundAt(x[cloud], y[cloud]) == WATER_GROUND ? 1 : 0;
                    int more = bounded(worthOf(GROW_LAW, cloud), MOST_MORE, other);
                    size[cloud] = Math.min(MOST_SIZE, size[cloud] + more);
                }
            }
        }

        private void joinClouds() {
            for (int first = 0; first < told.clouds; first++) {
                for (int second = first + 1; second < told.clouds && isUp(first); second++) {
                    if (isUp(second) && x[first] == x[second] && y[first] == y[second]) {
                        joinTwo(first, second);
                    }
                }
            }
        }

        private void joinTwo(int first, int second) {
            int larger = size[second] > size[first] ? second : first;
            int lesser = larger == first ? second : first;
            size[larger] = Math.min(MOST_SIZE, size[first] + size[second]);
            state[lesser] = JOINED;
        }

        private void rainDown() {
            for (int cloud = 0; cloud < told.clouds; cloud++) {
                if (isUp(cloud) && (size[cloud] >= told.rain || groundAt(x[cloud], y[cloud]) == HILL_GROUND)) {
                    int fall = bounded(worthOf(FALL_LAW, cloud), size[cloud], Math.max(1, size[cloud] / 2));
                    wetFields(cloud, fall);
                    size[cloud] -= fall;
                    if (size[cloud] == 0) {
                        state[cloud] = OVER;
                    }
                }
            }
        }

        private void wetFields(int cloud, int fall) {
            for (int field = 0; field < told.fields; field++) {
                if (told.fieldCell[field] == WIDE * y[cloud] + x[cloud]) {
                    got[field] += fall;
                    if (owner[cloud] != NONE) {
                        rainedBy[owner[cloud]][field] += fall;
                    }
                }
            }
        }

        private void giveOut() {
            for (int cloud = 0; cloud < told.clouds; cloud++) {
                if (isUp(cloud) && owner[cloud] == NONE) {
                    owner[cloud] = whoTakes(cloud);
                }
            }
        }

        private int whoTakes(int cloud) {
            int best = NONE;
            int fewest = told.most;
            for (int child = 0; child < told.children; child++) {
                if (canSee(child, cloud) && ownInSky(child) < fewest) {
                    fewest = ownInSky(child);
                    best = child;
                }
            }
            return best;
        }

        private void markChildren() {
            for (int child = 0; child < told.children; child++) {
                for (int cloud = 0; cloud < told.clouds; cloud++) {
                    if (isUp(cloud) && owner[cloud] == child) {
                        marks[child] += bounded(worthOf(MARK_LAW, cloud), MOST_MORE, canSee(child, cloud) ? 1 : 0);
                    }
                }
            }
        }
    }

    /** What was done by call since the last hour, the latest last. */
    private static final class Deeds {
        static final int PUSHED = 0;
        static final int GIVEN = 1;
        static final int SENT = 2;
        static final int BLOWN = 3;

        private final int[] kind = new int[MOST_DEEDS];
        private final int[] who = new int[MOST_DEEDS];
        private final int[] before = new int[MOST_DEEDS];
        private final int[] beforeY = new int[MOST_DEEDS];
        int done = 0;

        void forget() {
            done = 0;
        }

        void remember(int what, int whom, int was, int wasY) {
            if (done >= MOST_DEEDS) {
                dropFirst();
            }
            kind[done] = what;
            who[done] = whom;
            before[done] = was;
            beforeY[done] = wasY;
            done++;
        }

        private void dropFirst() {
            done = MOST_DEEDS - 1;
            System.arraycopy(kind, 1, kind, 0, done);
            System.arraycopy(who, 1, who, 0, done);
            System.arraycopy(before, 1, before, 0, done);
            System.arraycopy(beforeY, 1, beforeY, 0, done);
        }

        void undoLatest(Sky sky) {
            if (done < 1) {
                return;
            }
            done--;
            int whom = who[done];
            switch (kind[done]) {
                case PUSHED:
                    sky.x[whom] = before[done];
                    sky.y[whom] = beforeY[done];
                    sky.state[whom] = IN_SKY;
                    break;
                case GIVEN:
                    sky.owner[whom] = before[done];
                    break;
                case SENT:
                    sky.childX[whom] = before[done];
                    sky.childY[whom] = beforeY[done];
                    break;
                default:
                    sky.blown = before[done];
                    break;
            }
        }
    }

    /** What was seen of clouds, and what of it was struck. */
    private static final class Notes {
        private final int[] hours = new int[MOST_NOTES];
        private final int[] x = new int[MOST_NOTES];
        private final int[] y = new int[MOST_NOTES];
        private final boolean[] is = new boolean[MOST_NOTES];
        /** Which note it strikes; NONE, if it strikes none. */
        private final int[] strikes = new int[MOST_NOTES];
        private final boolean[] struck = new boolean[MOST_NOTES];
        int written = 0;
        int knownBy = NONE;

        void forget() {
            written = 0;
            knownBy = NONE;
        }

        int add(int behind, int cellX, int cellY, boolean any) {
            if (written >= MOST_NOTES) {
                return NONE;
            }
            hours[written] = behind;
            x[written] = cellX;
            y[written] = cellY;
            is[written] = any;
            strikes[written] = NONE;
            written++;
            return written - 1;
        }

        int addStrike(int note) {
            int added = add(0, 0, 0, false);
            if (added != NONE) {
                strikes[added] = note;
            }
            return added;
        }

        /** How many notes count. */
        int readable() {
            return knownBy == NONE ? written : knownBy;
        }

        /** From the last one on, so that what strikes is struck itself, if at all, ahead of its own turn. */
        void strikeOut() {
            for (int i = 0; i < MOST_NOTES; i++) {
                struck[i] = false;
            }
            for (int i = readable() - 1; i >= 0; i--) {
                if (!struck[i] && strikes[i] != NONE) {
                    struck[strikes[i]] = true;
                }
            }
        }

        private boolean counts(int note) {
            return !struck[note] && strikes[note] == NONE;
        }

        int lastHour() {
            int last = 0;
            for (int i = 0; i < readable(); i++) {
                if (counts(i)) {
                    last = Math.max(last, hours[i]);
                }
            }
            return last;
        }

        /** Whether all that is known of the hour that the sky has is so. */
        boolean fits(Sky sky) {
            for (int i = 0; i < readable(); i++) {
                if (counts(i) && hours[i] == sky.hour && is[i] != (sky.cloudsAt(x[i], y[i]) != 0)) {
                    return false;
                }
            }
            return true;
        }
    }

    /** Hours that are only thought of: skies of its own, so that the one of now stays. */
    private static final class Future {
        private final Sky[] path = new Sky[MOST_LIKELY + 1];
        private final Sky then;
        private final int[] seen = new int[CELLS];
        private final int[] pushes = new int[MOST_PLAN];
        private final int[] bestPushes = new int[MOST_PLAN];
        private final int[] oneHas = new int[WAYS * WAYS];
        private final int[] otherHas = new int[WAYS * WAYS];
        private int bestRain;
        private int drawn;

        Future(Told told) {
            for (int i = 0; i < path.length; i++) {
                path[i] = new Sky(told);
            }
            then = path[0];
        }

        /** As it goes, or tried otherwise; the cloud matters only to a sky without it. */
        Sky skyAfter(Sky now, int otherwise, int cloud, int n) {
            then.copyFrom(now);
            then.otherwise = otherwise;
            if (otherwise == NO_CLOUD) {
                then.state[cloud] = OVER;
            }
            for (int i = 0; i < n; i++) {
                then.passHour(then.windNow());
            }
            return then;
        }

        int stationOf(Sky now, int child, int n) {
            then.copyFrom(now);
            for (int cell = 0; cell < CELLS; cell++) {
                seen[cell] = 0;
            }
            int sight = now.told.sight[child];
            for (int i = 0; i < n; i++) {
                then.passHour(then.windNow());
                for (int cell = 0; cell < CELLS; cell++) {
                    seen[cell] += Integer.bitCount(then.seenFrom(cell % WIDE, cell / WIDE, sight));
                }
            }
            int best = 0;
            for (int cell = 1; cell < CELLS; cell++) {
                if (seen[cell] > seen[best]) {
                    best = cell;
                }
            }
            return best;
        }

        int seenFrom(int cell) {
            return cell >= 0 && cell < CELLS ? seen[cell] : 0;
        }

        int hoursUntilEnough(Sky now, int field) {
            then.copyFrom(now);
            for (int hours = 0; hours <= MOST_ENOUGH; hours++) {
                if (!then.lacksRain(field)) {
                    return hours;
                }
                then.passHour(then.windNow());
            }
            return TOO_FEW;
        }

        static int rowsOf(int n) {
            int rows = 1;
            for (int i = 0; i < n; i++) {
                rows *= WAYS;
            }
            return rows;
        }

        int rowsWithRain(Sky now, int field, int n) {
            path[0].copyFrom(now);
            return rowsFrom(0, field, Math.min(n, MOST_LIKELY));
        }

        /** Once it rained, all winds behind do. */
        private int rowsFrom(int depth, int field, int n) {
            if (depth >= n) {
                return 0;
            }
            int rows = 0;
            Sky next = path[depth + 1];
            for (int wind = 0; wind < WAYS; wind++) {
                next.copyFrom(path[depth]);
                next.passHour(wind);
                if (next.got[field] > path[depth].got[field]) {
                    rows += rowsOf(n - depth - 1);
                } else {
                    rows += rowsFrom(depth + 1, field, n);
                }
            }
            return rows;
        }

        int planOf(Sky now, int child, int field, int n) {
            path[0].copyFrom(now);
            bestRain = NONE;
            planFrom(0, child, field, Math.min(n, MOST_PLAN));
            return bestRain;
        }

        int plannedPush(int k) {
            return k >= 0 && k < MOST_PLAN ? bestPushes[k] : NONE;
        }

        private void planFrom(int depth, int child, int field, int n) {
            if (depth >= n) {
                int rain = path[depth].got[field] - path[0].got[field];
                if (rain > bestRain) {
                    bestRain = rain;
                    System.arraycopy(pushes, 0, bestPushes, 0, MOST_PLAN);
                }
                return;
            }
            int ways = path[depth].firstToPush(child) == NONE ? 1 : WAYS;
            Sky next = path[depth + 1];
            for (int way = 0; way < ways; way++) {
                pushes[depth] = way;
                next.copyFrom(path[depth]);
                next.pushBy(child, way);
                next.passHour(next.windNow());
                planFrom(depth + 1, child, field, n);
            }
        }

        /** What each has by each pair of pushes, five times the first one's and the second one's. */
        void tryBoth(Sky now, int one, int other) {
            for (int pair = 0; pair < WAYS * WAYS; pair++) {
                then.copyFrom(now);
                then.pushBy(one, pair / WAYS);
                then.pushBy(other, pair % WAYS);
                then.passHour(then.windNow());
                oneHas[pair] = then.rainOfOwn(one) - now.rainOfOwn(one);
                otherHas[pair] = then.rainOfOwn(other) - now.rainOfOwn(other);
            }
        }

        boolean isRest(int pair) {
            int mine = pair / WAYS;
            int theirs = pair % WAYS;
            for (int way = 0; way < WAYS; way++) {
                if (oneHas[WAYS * way + theirs] > oneHas[pair] || otherHas[WAYS * mine + way] > otherHas[pair]) {
                    return false;
                }
            }
            return true;
        }

        /** Whether all that is known is so with a cloud born of that size. */
        boolean agrees(Told told, Notes notes, int cloud, int size) {
            then.startOf(told);
            then.size[cloud] = size;
            int last = notes.lastHour();
            for (int hours = 1; hours <= last; hours++) {
                then.passHour(then.windNow());
                if (!notes.fits(then)) {
                    return false;
                }
            }
            return true;
        }

        void drawFrom(int seed) {
            drawn = seed;
        }

        /** The lower 31 bits are right even where the int product wraps round. */
        private int drawNumber() {
            drawn = drawn * 1103515245 + 12345 & Integer.MAX_VALUE;
            return drawn / 65536;
        }

        int rainByChance(Sky now, int n, int field) {
            then.copyFrom(now);
            for (int i = 0; i < n; i++) {
                then.passHour(drawNumber() % WAYS);
            }
            return then.got[field] - now.got[field];
        }
    }
}
