/** Promises 1 to 12, each at the edges that its sentences name. */
public final class Promises1To12Test {
    private static final int MIN = Integer.MIN_VALUE;
    private static final int MAX = Integer.MAX_VALUE;
    private static final int BLANKS = 0x20202020;
    /** As many of each kind as there may be. */
    private static final String FULL = "field a 0 0 1;field b 1 0 2;field c 2 0 3;field d 3 0 4;field e 4 3 5;"
        + "cloud a 0 0 1 0;cloud b 1 0 2 0;cloud c 2 0 3 0;cloud d 3 0 4 0;cloud e 4 0 5 0;cloud f 5 0 5 0;cloud g 0 1 4 0;cloud h 5 3 3 0;"
        + "child a 0 0 1;child b 1 1 2;child c 2 2 3;child d 3 3 4;child e 4 2 5;child f 5 1 6;";

    public static void main(String[] args) {
        promise1NewObject();
        promise1NewObjectAsked();
        promise2Feed();
        promise2FeedRefused();
        promise2FeedBytes();
        promise3TextTakesTheFirstBytes();
        promise3TextRefused();
        promise3TextWithFault();
        promise3TextAnew();
        promise4Fault();
        promise5Named();
        promise5NamedNone();
        promise6Cloud();
        promise6CloudThrows();
        promise7Child();
        promise8Field();
        promise9Ground();
        promise10Sees();
        promise11In();
        promise12Law();
        asksLeaveAll();
        Check.end("Promises1To12Test");
    }

    private static void promise1NewObject() {
        Check.about("promise 1");
        CloudSchool s = new CloudSchool();
        for (int what = 0; what <= 14; what++) {
            Check.due("count(" + what + ")", s.count(what), 0);
        }
        for (int cell = 0; cell < 24; cell++) {
            Check.due("ground of " + cell, s.ground(cell % 6, cell / 6), 0);
            Check.due("in " + cell, s.in(cell % 6, cell / 6), 0);
        }
        Check.due("an empty tape: text(1)", s.text(1), -2);
        Check.due("an empty tape: feed", s.feed(BLANKS, BLANKS, BLANKS, BLANKS, BLANKS), 20);
    }

    private static void promise1NewObjectAsked() {
        Check.about("promise 1: a TEXT without LINES");
        CloudSchool s = new CloudSchool();
        Check.due("cloud(0, 0)", Check.cloudThrows(s, 0, 0), 1);
        Check.due("cloud(0, 6)", Check.cloudThrows(s, 0, 6), 1);
        Check.due("child(0, 0)", s.child(0, 0), -1);
        Check.due("field(0, 0)", s.field(0, 0), -1);
        Check.due("sees(0)", s.sees(0), -1);
        Check.due("law(0, 0)", s.law(0, 0), Long.MIN_VALUE);
        Check.due("push(0, 1)", s.push(0, 1), -1);
        Check.due("give(0, -1)", s.give(0, -1), false);
        Check.due("stand(0, 0, 0)", s.stand(0, 0, 0), false);
        Check.due("named(0, 0)", s.named(0, 0), -1);
        Check.due("named(1, 0)", s.named(1, 0), -1);
        Check.due("named(2, 0)", s.named(2, 0), -1);
        Check.due("could()", s.could(), 0);
        Check.due("lacks()", s.lacks(), 0);
        Check.due("enough(0)", s.enough(0), -1);
        Check.due("whose(0)", s.whose(0), -1);
        Check.due("swaps()", s.swaps(), 0);
        Check.due("swap(0)", s.swap(0), -2);
        Check.due("station(0, 1, 0)", s.station(0, 1, 0), -1);
        Check.due("likely(0, 1, 0)", s.likely(0, 1, 0), -1);
        Check.due("plan(0, 0, 1)", s.plan(0, 0, 1), -1);
        Check.due("step(0, 0, 1, 0)", s.step(0, 0, 1, 0), -1);
        Check.due("rests(0, 1)", s.rests(0, 1), -1);
        Check.due("rest(0, 1, 0)", s.rest(0, 1, 0), -1);
        Check.due("sizes(0)", s.sizes(0), -1);
        Check.due("chance(0, 1, 0, 0)", s.chance(0, 1, 0, 0), -1);
        Check.due("tried(2, 0, 1)", s.tried(2, 0, 1), -1);
        Check.due("tried(0, 0, 60)", s.tried(0, 0, 60), 0);
        Check.due("ahead(60, 1)", s.ahead(60, 1), 0);
        Check.due("undo()", s.undo(), -1);
        Check.due("back()", s.back(), -1);
        Check.due("note(1, 0, 0, true)", s.note(1, 0, 0, true), 0);
        Check.due("blow(-1): it is so", s.blow(-1), false);
        Check.due("blow(0): not by call as yet", s.blow(0), true);
        Check.due("blow(4)", s.blow(4), true);
        Check.due("its wind", s.count(6), 4);
        Check.due("go(99)", s.go(99), 99);
        Check.due("keep()", s.keep(), 99);
        Check.due("back()", s.back(), 99);
    }

    private static void promise2Feed() {
        Check.about("promise 2: how many it has");
        CloudSchool s = new CloudSchool();
        for (int i = 1; i <= 35; i++) {
            Check.due("feed " + i, s.feed(BLANKS, BLANKS, BLANKS, BLANKS, BLANKS), 20 * i);
        }
        Check.due("720 is more than 700", s.feed(BLANKS, BLANKS, BLANKS, BLANKS, BLANKS), -1);
        Check.due("again", s.feed(BLANKS, BLANKS, BLANKS, BLANKS, BLANKS), -1);
        Check.due("text(700)", s.text(700), 0);
        Check.due("from 0 on then", s.feed(BLANKS, BLANKS, BLANKS, BLANKS, BLANKS), 20);
    }

    private static void promise2FeedRefused() {
        Check.about("promise 2: NONE, and none come");
        CloudSchool s = new CloudSchool();
        Check.feedAll(s, "rain 1;" + " ".repeat(686) + "most 1;");
        Check.due("refused", s.feed(0x24242424, 0x24242424, 0x24242424, 0x24242424, 0x24242424), -1);
        Check.due("not one byte more", s.text(701), -2);
        Check.due("the 700 are as they were", s.text(700), 2);
        s = new CloudSchool();
        Check.feedAll(s, " ".repeat(680));
        Check.due("680 and 20 are 700", s.feed(BLANKS, BLANKS, BLANKS, BLANKS, 0x20202024), 700);
        Check.due("the 700th is the text's, too", s.text(700), -1);
        Check.due("its place", s.fault(1), 699);
    }

    private static void promise2FeedBytes() {
        Check.about("promise 2: four of each number, the highest first");
        CloudSchool s = new CloudSchool();
        s.feed(0x7261696e, 0x20313b6d, 0x6f737420, 0x323b6c61, 0x77206772);
        s.feed(0x6f772033, 0x3b202020, BLANKS, BLANKS, BLANKS);
        Check.due("rain 1;most 2;law grow 3;", s.text(40), 3);
        int[] numbers = {0x24202020, 0x20242020, 0x20202420, 0x20202024, 0xff202020, 0x20ff2020, 0x2020ff20, 0x202020ff, 0x80202020};
        for (int i = 0; i < numbers.length; i++) {
            for (int which = 0; which < 5; which++) {
                s.feed(which == 0 ? numbers[i] : BLANKS, which == 1 ? numbers[i] : BLANKS, which == 2 ? numbers[i] : BLANKS,
                    which == 3 ? numbers[i] : BLANKS, which == 4 ? numbers[i] : BLANKS);
                s.text(20);
                Check.due("place of the wrong byte of number " + which, s.fault(1), 4 * which + i % 4);
            }
        }
        s.feed(MIN, BLANKS, BLANKS, BLANKS, BLANKS);
        s.text(20);
        Check.due("byte 128", s.fault(1), 0);
    }

    private static void promise3TextTakesTheFirstBytes() {
        Check.about("promise 3: the TAPE's first n bytes (it is empty then)");
        CloudSchool s = new CloudSchool();
        Check.feedAll(s, "rain 3;most 3;$");
        Check.due("text(14)", s.text(14), 2);
        Check.due("empty then: text(1)", s.text(1), -2);
        Check.feedAll(s, "$$$$");
        Check.due("text(0)", s.text(0), 0);
        Check.due("empty then, too", s.text(1), -2);
        Check.feedAll(s, "rain 3;");
        Check.due("text(20): all of it", s.text(20), 1);
        Check.feedAll(s, "rain 3;");
        Check.due("text(6): one byte less than the line", s.text(6), -1);
        Check.due("its place", s.fault(1), 6);
        Check.due("empty with a fault, too", s.text(1), -2);
        Check.due("feed anew", s.feed(BLANKS, BLANKS, BLANKS, BLANKS, BLANKS), 20);
    }

    private static void promise3TextRefused() {
        Check.about("promise 3: -2, and the TAPE stays");
        for (int n : new int[] {-1, -2, MIN, 21, 700, 701, MAX}) {
            Check.due("text(" + n + ")", Look.rich().text(n), -2);
            Look.leaves("text(" + n + ")", s -> s.text(n));
        }
        CloudSchool s = new CloudSchool();
        Check.feedAll(s, "rain 3;most 3;");
        Check.due("21 of 20", s.text(21), -2);
        Check.due("below 0", s.text(-1), -2);
        Check.due("what was fed is there", s.text(14), 2);
    }

    private static void promise3TextWithFault() {
        Check.about("promise 3: NONE with a FAULT, all stays");
        String[] texts = {"$", "rain 99;", "rain 1;rain 1;", "water 0 0;hill 4 3;cloud x 0 0 1 0;child x 0 0 1;field x 0 0 1;wind 4;law grow 1;$"};
        for (String text : texts) {
            CloudSchool s = Look.rich();
            Check.due("a fault behind the 20 blanks", s.text(20 + Check.feedAll(s, text)), -1);
            Check.due("the tape is empty", s.feed(BLANKS, BLANKS, BLANKS, BLANKS, BLANKS), 20);
            String due = Look.whole(Look.rich());
            String got = Look.whole(s);
            int from = due.indexOf(" fault ");
            Check.alike("all but the fault behind '" + text + "'", got.substring(0, from), due.substring(0, from));
            Check.alike("what can be undone, the image", got.substring(got.indexOf("tape")), due.substring(due.indexOf("tape")));
        }
    }

    private static void promise3TextAnew() {
        Check.about("promise 3: HOUR 0, all CLOUDS TO COME, WINDS as told, no NOTES, all KNOWN, no IMAGE, nothing to undo");
        CloudSchool s = Look.rich();
        int n = 20 + Check.feedAll(s, "cloud a 1 1 3 0;cloud b 2 2 3 9;child k 1 1 1;wind 3;");
        Check.due("LINES behind the 20 blanks", s.text(n), 4);
        int[] counts = {0, 2, 1, 1, 0, 0, 3, 0, 2, 0, 0, 0, 0, 0, 0};
        for (int what = 0; what < counts.length; what++) {
            Check.due("count(" + what + ")", s.count(what), counts[what]);
        }
        Check.due("winds as told: so already", s.blow(-1), false);
        Check.due("no image", s.back(), -1);
        Check.due("nothing to undo", s.undo(), -1);
        Check.cloudIs("to come", s, 0, 1, 1, 3, 0, -1, 0);
        Check.due("no water", s.ground(1, 1), 0);
        Check.due("no hill", s.ground(4, 3), 0);
        Check.due("note 0", s.note(1, 1, 1, true), 0);
        Check.due("known by all", s.count(13), 1);
        Check.due("no marks", s.child(0, 3), 0);
        Check.due("rain and laws are forgotten", Check.read(s, "cloud a 1 1 6 0;field f 1 1 9;") + s.go(1), 3);
        Check.due("6 rains again", s.field(0, 3), 3);
        for (int i = 0; i < 3; i++) {
            Check.read(s, "cloud a 1 1 6 0;cloud b 2 2 6 0;field f 1 1 9;child k 1 1 9;rain 20;most 1;");
            s.go(1);
            Check.due("rain 20", s.field(0, 3), 0);
            Check.due("most 1", s.child(0, 4), 1);
        }
        for (int i = 0; i < 3; i++) {
            Check.read(s, "cloud a 1 1 6 0;cloud b 2 2 6 0;field f 1 1 9;child k 1 1 9;");
            s.go(1);
            Check.due("rain is 6 again", s.field(0, 3), 3);
            Check.due("most is 9 again", s.child(0, 4), 2);
        }
        s = Look.rich();
        Check.due("text(0)", s.text(0), 0);
        for (int what = 0; what <= 14; what++) {
            Check.due("a text without lines: count(" + what + ")", s.count(what), 0);
        }
        Check.due("no image then", s.back(), -1);
    }

    private static void promise4Fault() {
        Check.about("promise 4");
        CloudSchool s = new CloudSchool();
        Check.due("none yet", s.fault(0), 0);
        Check.due("its place", s.fault(1), -1);
        Check.due("text(1) is -2", s.text(1), -2);
        Check.due("none by it", s.fault(0), 0);
        for (int kind = 1; kind <= 3; kind++) {
            String text = kind == 1 ? "$" : kind == 2 ? "rain 0;" : "rain 1;rain 1;";
            int place = kind == 1 ? 0 : kind == 2 ? 5 : 7;
            Check.due("a text with fault " + kind, Check.read(s, text), -1);
            Check.due("fault(0)", s.fault(0), kind);
            Check.due("fault(1)", s.fault(1), place);
            Check.due("-2", s.text(1), -2);
            Check.due("-2 by a number below 0", s.text(-1), -2);
            Check.due("fault(0) of the latest that was not -2", s.fault(0), kind);
            Check.due("fault(1) of it", s.fault(1), place);
        }
        for (int what : new int[] {-1, 2, 3, MIN, MAX}) {
            Check.due("fault(" + what + ")", s.fault(what), -1);
        }
        Check.due("a text without", Check.read(s, "rain 1;"), 1);
        Check.due("fault(0) then", s.fault(0), 0);
        Check.due("fault(1) then", s.fault(1), -1);
        Check.due("the place may be the length", Check.read(s, "rain 1"), -1);
        Check.due("6", s.fault(1), 6);
    }

    private static void promise5Named() {
        Check.about("promise 5");
        CloudSchool s = Check.of("field a 0 0 0;field z 0 0 0;field zzzzzz 0 0 0;field aaaaaa 0 0 0;field ab 0 0 0;cloud ab 0 0 1 0;"
            + "cloud a 0 0 1 0;child b 0 0 0;child ba 0 0 0;child ab 0 0 0;");
        Check.due("a: 1 at the highest of six", s.named(0, 1 << 25), 0);
        Check.due("z: 26 at the highest of six", s.named(0, 26 << 25), 1);
        Check.due("zzzzzz", s.named(0, 0x35ad6b5a), 2);
        Check.due("aaaaaa", s.named(0, 0x02108421), 3);
        Check.due("ab: 0 behind the last one", s.named(0, (1 << 25) + (2 << 20)), 4);
        Check.due("a cloud's ab", s.named(1, Check.letters("ab")), 0);
        Check.due("a cloud's a", s.named(1, Check.letters("a")), 1);
        Check.due("a child's ab", s.named(2, Check.letters("ab")), 2);
        Check.due("a child's ba", s.named(2, Check.letters("ba")), 1);
        CloudSchool full = Check.of(FULL);
        Check.due("the fifth field", full.named(0, Check.letters("e")), 4);
        Check.due("the eighth cloud", full.named(1, Check.letters("h")), 7);
        Check.due("the sixth child", full.named(2, Check.letters("f")), 5);
    }

    private static void promise5NamedNone() {
        Check.about("promise 5: NONE: there is none such");
        CloudSchool s = Check.of("field a 0 0 0;cloud ab 0 0 1 0;child b 0 0 0;");
        for (int what : new int[] {-1, 3, 4, MIN, MAX}) {
            Check.due("what " + what, s.named(what, 1 << 25), -1);
        }
        for (int letters : new int[] {0, 1, -1, MIN, MAX, (1 << 25) + 1, 1 << 20, 2 << 25, (1 << 25) | MIN, (1 << 25) | 1 << 30, 31 << 25}) {
            Check.due("letters " + letters, s.named(0, letters), -1);
        }
        Check.due("a cloud's name is no field's", s.named(0, Check.letters("ab")), -1);
        Check.due("a field's name is no cloud's", s.named(1, Check.letters("a")), -1);
        Check.due("nor a child's", s.named(2, Check.letters("a")), -1);
        Check.read(s, "field x 0 0 0;$");
        Check.due("a text with a fault names none", s.named(0, Check.letters("x")), -1);
        Check.due("and all stays", s.named(0, Check.letters("a")), 0);
        Check.read(s, "field x 0 0 0;");
        Check.due("a new text's", s.named(0, Check.letters("x")), 0);
        Check.due("and no other", s.named(0, Check.letters("a")), -1);
        Check.due("nor a cloud of the old one", s.named(1, Check.letters("ab")), -1);
    }

    private static void promise6Cloud() {
        Check.about("promise 6");
        CloudSchool s = Look.rich();
        Check.cloudIs("in the sky", s, 0, 2, 2, 3, 3, 0, 1);
        Check.cloudIs("in the sky, given", s, 1, 4, 1, 6, 3, 2, 1);
        Check.cloudIs("joined, where it was last", s, 2, 3, 1, 2, 0, -1, 3);
        Check.cloudIs("over, where it was last", s, 3, 4, 3, 0, 0, -1, 4);
        Check.cloudIs("lost, where it was last", s, 4, 5, 0, 2, 1, -1, 2);
        Check.cloudIs("to come, where it will be born", s, 5, 2, 2, 5, 0, -1, 0);
        s = Check.of(FULL);
        Check.cloudIs("the eighth", s, 7, 5, 3, 3, 0, -1, 0);
    }

    private static void promise6CloudThrows() {
        Check.about("promise 6: IndexOutOfBoundsException, NoSuchElementException");
        CloudSchool s = Check.of(FULL);
        for (int what = 0; what <= 5; what++) {
            Check.due("cloud(0, " + what + ")", Check.cloudThrows(s, 0, what), 0);
            Check.due("cloud(7, " + what + ")", Check.cloudThrows(s, 7, what), 0);
            Check.due("cloud(8, " + what + ")", Check.cloudThrows(s, 8, what), 1);
            Check.due("cloud(-1, " + what + ")", Check.cloudThrows(s, -1, what), 1);
        }
        for (int what : new int[] {-1, 6, MIN, MAX}) {
            Check.due("cloud(0, " + what + ")", Check.cloudThrows(s, 0, what), 2);
            Check.due("cloud(7, " + what + ")", Check.cloudThrows(s, 7, what), 2);
            Check.due("cloud(8, " + what + ")", Check.cloudThrows(s, 8, what), 1);
        }
        Check.due("cloud(MIN, 0)", Check.cloudThrows(s, MIN, 0), 1);
        Check.due("cloud(MAX, 0)", Check.cloudThrows(s, MAX, 0), 1);
        Check.due("in a school of six, cloud(6, 0)", Check.cloudThrows(Look.rich(), 6, 0), 1);
        Look.leaves("cloud(6, 0)", x -> Check.cloudThrows(x, 6, 0));
        Look.leaves("cloud(0, 6)", x -> Check.cloudThrows(x, 0, 6));
    }

    private static void promise7Child() {
        Check.about("promise 7");
        CloudSchool s = Check.of(FULL);
        int[] last = {5, 1, 6, 0, 0, 0};
        for (int what = 0; what <= 5; what++) {
            Check.due("child(5, " + what + ")", s.child(5, what), last[what]);
            for (int child : new int[] {-1, 6, 7, MIN, MAX}) {
                Check.due("child(" + child + ", " + what + ")", s.child(child, what), -1);
            }
        }
        for (int what : new int[] {-1, 6, MIN, MAX}) {
            Check.due("child(0, " + what + ")", s.child(0, what), -1);
        }
        Check.due("marks of six in sum", s.count(11), 0);
        Check.due("in a school of three", Look.rich().child(3, 0), -1);
        s = Look.rich();
        int[] k = {1, 1, 1, 3, 1, 0};
        int[] m = {0, 3, 0, 0, 1, 0};
        for (int what = 0; what <= 5; what++) {
            Check.due("k, " + what, s.child(0, what), k[what]);
            Check.due("m, " + what, s.child(2, what), m[what]);
        }
    }

    private static void promise8Field() {
        Check.about("promise 8");
        CloudSchool s = Check.of(FULL);
        int[] last = {4, 3, 5, 0};
        for (int what = 0; what <= 3; what++) {
            Check.due("field(4, " + what + ")", s.field(4, what), last[what]);
            for (int field : new int[] {-1, 5, 6, MIN, MAX}) {
                Check.due("field(" + field + ", " + what + ")", s.field(field, what), -1);
            }
        }
        for (int what : new int[] {-1, 4, MIN, MAX}) {
            Check.due("field(0, " + what + ")", s.field(0, what), -1);
        }
        Check.due("in a school of two", Look.rich().field(2, 0), -1);
        Check.due("what it got", Look.rich().field(1, 3), 1);
    }

    private static void promise9Ground() {
        Check.about("promise 9");
        CloudSchool s = Check.of("water 0 0;hill 5 0;hill 0 3;water 5 3;");
        int[] corners = {1, 2, 2, 1};
        for (int i = 0; i < 4; i++) {
            Check.due("corner " + i, s.ground(i % 2 * 5, i / 2 * 3), corners[i]);
        }
        for (int bad : new int[] {-1, 6, 24, MIN, MAX}) {
            Check.due("ground(" + bad + ", 0)", s.ground(bad, 0), -1);
            Check.due("ground(0, " + bad + ")", s.ground(0, bad), -1);
        }
        Check.due("y 4", s.ground(0, 4), -1);
        Check.due("x 6 is not the next row", s.ground(6, 2), -1);
        Check.due("x -1 is not the last row", s.ground(-1, 1), -1);
    }

    private static void promise10Sees() {
        Check.about("promise 10");
        CloudSchool s = Check.of(FULL + "rain 20;");
        Check.due("none in the sky", s.sees(5), 0);
        s.go(1);
        Check.due("the first one: sight 1", s.sees(0), 1 + 2 + 64);
        Check.due("the last one: all", s.sees(5), 255);
        for (int bad : new int[] {-1, 6, 7, MIN, MAX}) {
            Check.due("sees(" + bad + ")", s.sees(bad), -1);
        }
        s = Look.rich();
        Check.due("neither lost nor joined nor over nor to come", s.sees(0), 1);
        Check.due("in a school of three", s.sees(3), -1);
    }

    private static void promise11In() {
        Check.about("promise 11");
        CloudSchool s = Look.rich();
        int[] x = {2, 4, 3, 4, 5};
        int[] y = {2, 1, 1, 3, 0};
        int[] due = {1, 2, 0, 0, 0};
        for (int i = 0; i < 5; i++) {
            Check.due("in(" + x[i] + ", " + y[i] + ")", s.in(x[i], y[i]), due[i]);
        }
        for (int bad : new int[] {-1, 6, 24, MIN, MAX}) {
            Check.due("in(" + bad + ", 0)", s.in(bad, 0), -1);
            Check.due("in(0, " + bad + ")", s.in(0, bad), -1);
        }
        Check.due("in(0, 4)", s.in(0, 4), -1);
        s = Check.of("cloud a 5 3 3 0;cloud b 0 0 3 0;cloud c 4 3 3 0;child k 0 0 9;");
        s.go(1);
        Check.due("in(5, 3)", s.in(5, 3), 1);
        Check.due("in(0, 0)", s.in(0, 0), 2);
        s.give(0, -1);
        s.give(1, -1);
        s.push(0, 1);
        Check.due("two in one cell until the hour goes by", s.in(5, 3), 1 + 4);
        s = Check.of(FULL + "rain 20;");
        s.go(1);
        Check.due("the eighth of eight", s.in(5, 3), 128);
        Check.due("none of eight", s.in(4, 3), 0);
    }

    private static void promise12Law() {
        Check.about("promise 12");
        CloudSchool s = Look.rich();
        Check.due("grow", s.law(0, 0), 0);
        Check.due("fall", s.law(1, 1), 6);
        Check.due("mark", s.law(2, 0), 1);
        for (int cloud : new int[] {Look.JOINED, Look.OVER, Look.LOST, Look.TO_COME, -1, 6, 8, MIN, MAX}) {
            for (int what = 0; what <= 2; what++) {
                Check.due("law(" + what + ", " + cloud + ")", s.law(what, cloud), Long.MIN_VALUE);
            }
        }
        for (int what : new int[] {-1, 3, MIN, MAX}) {
            Check.due("law(" + what + ", 0)", s.law(what, 0), Long.MIN_VALUE);
        }
        for (int told = 0; told < 3; told++) {
            s = Check.of("cloud a 1 1 3 0;law " + new String[] {"grow", "fall", "mark"}[told] + " 7;");
            s.go(1);
            for (int what = 0; what < 3; what++) {
                Check.due("told " + told + ": law(" + what + ", 0)", s.law(what, 0), what == told ? 7 : Long.MIN_VALUE);
            }
        }
        s = Check.of("cloud a 1 1 3 0;law grow 10+90;law fall 0-5;law mark 1/0;");
        s.go(1);
        Check.due("above 9 as it is", s.law(0, 0), 100);
        Check.due("below 0 as it is", s.law(1, 0), -5);
        Check.due("an error", s.law(2, 0), Long.MIN_VALUE);
    }

    private static void asksLeaveAll() {
        Check.about("promises 4 to 12: asking leaves all as it was");
        Look.leaves("fault, named, child, field", s -> {
            s.fault(0);
            s.named(0, 1 << 25);
            s.child(0, 5);
            s.field(0, 3);
        });
        Look.leaves("ground, sees, in, law", s -> {
            s.ground(0, 0);
            s.sees(0);
            s.in(2, 2);
            s.law(0, 0);
            s.law(1, 1);
        });
    }
}
