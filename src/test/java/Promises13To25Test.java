/** Promises 13 to 25, each at the edges that its sentences name. */
public final class Promises13To25Test {
    private static final int MIN = Integer.MIN_VALUE;
    private static final int MAX = Integer.MAX_VALUE;
    private static final int[] NO_CHILDREN = {-1, -2, 3, 4, 6, MIN, MAX};
    private static final int[] NO_FIELDS = {-1, -2, 2, 3, 5, MIN, MAX};
    private static final int[] NO_CELL = {-1, 6, 7, 24, MIN, MAX};

    public static void main(String[] args) {
        promise13Push();
        promise13PushBeyondTheEdge();
        promise13PushRefused();
        promise14Give();
        promise14GiveRefused();
        promise15Stand();
        promise15StandRefused();
        promise16Blow();
        promise16BlowRefused();
        promise17Go();
        promise17GoRefused();
        promise17GoBehind999();
        promise18Ahead();
        promise19Could();
        promise20Station();
        promise21Lacks();
        promise22Enough();
        promise23Whose();
        promise24And25Swaps();
        Check.end("Promises13To25Test");
    }

    private static void promise13Push() {
        Check.about("promise 13");
        int[] x = {2, 3, 2, 1, 2};
        int[] y = {2, 2, 3, 2, 1};
        for (int way = 1; way <= 4; way++) {
            CloudSchool s = Look.rich();
            Check.due("push(0, " + way + ")", s.push(0, way), 0);
            Check.cloudIs("way " + way, s, 0, x[way], y[way], 3, 3, 0, 1);
            Check.due("one more to undo", s.count(14), 5);
            Check.due("no hour goes by", s.count(5), 3);
        }
        CloudSchool s = Look.rich();
        s.push(0, 1);
        Check.due("what it doesn't see any more: -2", s.push(0, 1), -2);
        Check.due("none to undo of that", s.count(14), 5);
    }

    private static void promise13PushBeyondTheEdge() {
        Check.about("promise 13: beyond the edge LOST");
        int[] x = {0, 5, 2, 0, 2};
        int[] y = {0, 1, 3, 1, 0};
        for (int way = 1; way <= 4; way++) {
            CloudSchool s = Check.of("cloud a " + x[way] + " " + y[way] + " 3 0;child k 2 1 9;");
            s.go(1);
            Check.due("push by " + way, s.push(0, way), 0);
            Check.cloudIs("lost by " + way, s, 0, x[way], y[way], 3, 1, 0, 2);
            Check.due("none left", s.push(0, way), -2);
            Check.due("one to undo", s.undo(), 0);
            Check.cloudIs("undone of " + way, s, 0, x[way], y[way], 3, 1, 0, 1);
        }
    }

    private static void promise13PushRefused() {
        Check.about("promise 13: -2: it has none such; NONE: no such ones");
        CloudSchool s = Look.rich();
        Check.due("l has none", s.push(1, 1), -2);
        Check.due("m has one that it doesn't see", s.push(2, 1), -2);
        Look.leaves("push(1, 1)", x -> x.push(1, 1));
        Look.leaves("push(2, 4)", x -> x.push(2, 4));
        for (int way : new int[] {0, -1, 5, 6, MIN, MAX}) {
            Check.due("push(0, " + way + ")", s.push(0, way), -1);
            Check.due("push(1, " + way + "): no such way ahead of none such", s.push(1, way), -1);
            Look.leaves("push(0, " + way + ")", x -> x.push(0, way));
        }
        for (int child : NO_CHILDREN) {
            Check.due("push(" + child + ", 1)", s.push(child, 1), -1);
            Look.leaves("push(" + child + ", 1)", x -> x.push(child, 1));
        }
        s = Check.of("cloud a 1 1 3 1;child k 1 1 9;");
        Check.due("to come", s.push(0, 1), -2);
        s = Check.of("cloud a 0 0 1 0;cloud b 1 0 1 0;cloud c 2 0 1 0;cloud d 3 0 1 0;cloud e 4 0 1 0;cloud f 5 0 1 0;cloud g 0 1 1 0;"
            + "cloud h 1 1 1 0;child k 0 0 9;child l 5 3 0;");
        s.go(1);
        Check.due("none of eight", s.push(1, 1), -2);
        for (int cloud = 0; cloud < 7; cloud++) {
            s.give(cloud, 1);
        }
        Check.due("the eighth of eight", s.push(0, 1), 7);
    }

    private static void promise14Give() {
        Check.about("promise 14");
        CloudSchool s = Look.rich();
        Check.due("to the first child", s.give(1, 0), true);
        Check.due("its child", s.cloud(1, 4), 0);
        Check.due("to the last child", s.give(0, 2), true);
        Check.due("its child", s.cloud(0, 4), 2);
        Check.due("to nobody", s.give(0, -1), true);
        Check.due("nobody", s.cloud(0, 4), -1);
        Check.due("from nobody", s.give(0, 1), true);
        Check.due("four more to undo", s.count(14), 8);
        s = Check.of("cloud a 0 0 1 0;cloud b 1 0 1 0;cloud c 2 0 1 0;child k 5 3 0;most 1;");
        s.go(1);
        for (int cloud = 0; cloud < 3; cloud++) {
            Check.due("most doesn't matter, nor sight: " + cloud, s.give(cloud, 0), true);
            Check.due("has", s.child(0, 4), cloud + 1);
        }
    }

    private static void promise14GiveRefused() {
        Check.about("promise 14: false: no such ones, it is so");
        CloudSchool s = Look.rich();
        for (int cloud : new int[] {Look.JOINED, Look.OVER, Look.LOST, Look.TO_COME, -1, 6, 8, MIN, MAX}) {
            for (int child = -1; child <= 2; child++) {
                Check.due("give(" + cloud + ", " + child + ")", s.give(cloud, child), false);
            }
            Look.leaves("give(" + cloud + ", 1)", x -> x.give(cloud, 1));
        }
        for (int child : NO_CHILDREN) {
            if (child != -1) {
                Check.due("give(0, " + child + ")", s.give(0, child), false);
                Look.leaves("give(0, " + child + ")", x -> x.give(0, child));
            }
        }
        Check.due("it is k's", s.give(0, 0), false);
        Check.due("it is m's", s.give(1, 2), false);
        Look.leaves("give(0, 0)", x -> x.give(0, 0));
        s.give(0, -1);
        Check.due("it is nobody's", s.give(0, -1), false);
        Check.due("one more to undo", s.count(14), 5);
    }

    private static void promise15Stand() {
        Check.about("promise 15");
        for (int cell : new int[] {0, 5, 18, 23}) {
            CloudSchool s = Look.rich();
            Check.due("stand in cell " + cell, s.stand(0, cell % 6, cell / 6), true);
            Check.due("x", s.child(0, 0), cell % 6);
            Check.due("y", s.child(0, 1), cell / 6);
            Check.due("one more to undo", s.count(14), 5);
        }
        CloudSchool s = Look.rich();
        Check.due("where another one is", s.stand(2, 1, 1), true);
        Check.due("another x", s.stand(2, 2, 1), true);
        Check.due("another y", s.stand(2, 2, 2), true);
    }

    private static void promise15StandRefused() {
        Check.about("promise 15: false: no such ones, it is there");
        CloudSchool s = Look.rich();
        for (int bad : NO_CELL) {
            Check.due("stand(0, " + bad + ", 0)", s.stand(0, bad, 0), false);
            Check.due("stand(0, 0, " + bad + ")", s.stand(0, 0, bad), false);
            Look.leaves("stand(0, " + bad + ", 0)", x -> x.stand(0, bad, 0));
            Look.leaves("stand(0, 0, " + bad + ")", x -> x.stand(0, 0, bad));
        }
        Check.due("stand(0, 0, 4)", s.stand(0, 0, 4), false);
        for (int child : NO_CHILDREN) {
            Check.due("stand(" + child + ", 0, 0)", s.stand(child, 0, 0), false);
            Look.leaves("stand(" + child + ", 0, 0)", x -> x.stand(child, 0, 0));
        }
        Check.due("it is there", s.stand(0, 1, 1), false);
        Look.leaves("stand(0, 1, 1)", x -> x.stand(0, 1, 1));
    }

    private static void promise16Blow() {
        Check.about("promise 16");
        CloudSchool s = Check.of("cloud a 2 1 3 0;wind 1;wind 2;wind 3;");
        for (int wind = 0; wind <= 4; wind++) {
            Check.due("blow(" + wind + ")", s.blow(wind), true);
            Check.due("the wind", s.count(6), wind);
            Check.due("it is so", s.blow(wind), false);
        }
        Check.due("as told", s.blow(-1), true);
        Check.due("the first one", s.count(6), 1);
        s.blow(0);
        s.go(7);
        Check.due("in all hours from now on", s.count(6), 0);
        Check.cloudIs("it stays", s, 0, 2, 1, 3, 7, -1, 1);
        Check.due("as told again", s.blow(-1), true);
        Check.due("the wind of hour 7", s.count(6), 2);
        Check.due("as told by 3 winds", s.count(3), 3);
        CloudSchool none = Check.of("cloud a 2 1 3 0;");
        Check.due("0 where none is told is a call, too", none.blow(0), true);
        Check.due("to undo", none.count(14), 1);
    }

    private static void promise16BlowRefused() {
        Check.about("promise 16: false: no such one, it is so");
        CloudSchool s = Look.rich();
        for (int wind : new int[] {-2, 5, 6, MIN, MAX}) {
            Check.due("blow(" + wind + ")", s.blow(wind), false);
            Look.leaves("blow(" + wind + ")", x -> x.blow(wind));
        }
        Check.due("it is 2", s.blow(2), false);
        Look.leaves("blow(2)", x -> x.blow(2));
        Check.due("as told at first", Check.of("wind 1;").blow(-1), false);
    }

    private static void promise17Go() {
        Check.about("promise 17: so many HOURS (0 .. 99)");
        CloudSchool s = Check.of("cloud a 2 1 3 0;cloud b 2 2 3 98;cloud c 2 3 3 99;");
        Check.due("go(0)", s.go(0), 0);
        Check.due("nothing is born", s.count(8), 3);
        Check.due("go(99)", s.go(99), 99);
        Check.due("age", s.cloud(0, 3), 99);
        Check.due("b", s.cloud(1, 5), 1);
        Check.due("c", s.cloud(2, 5), 0);
        Check.due("go(1)", s.go(1), 100);
        Check.due("c then", s.cloud(2, 5), 1);
        Look.leaves("go(0)", x -> x.go(0));
    }

    private static void promise17GoRefused() {
        Check.about("promise 17: NONE, and none does: no such number");
        for (int n : new int[] {-1, -2, 100, 101, 999, MIN, MAX}) {
            Check.due("go(" + n + ")", Look.rich().go(n), -1);
            Look.leaves("go(" + n + ")", x -> x.go(n));
        }
    }

    private static void promise17GoBehind999() {
        Check.about("promise 17: NONE, and none does: behind 999");
        CloudSchool s = Check.of("cloud a 2 1 3 0;child k 2 1 0;");
        for (int i = 0; i < 10; i++) {
            s.go(95);
        }
        Check.due("hour 950", s.count(5), 950);
        s.stand(0, 3, 3);
        Check.due("go(50)", s.go(50), -1);
        Check.due("go(99)", s.go(99), -1);
        Check.due("none went by", s.count(5), 950);
        Check.due("nor is its age more", s.cloud(0, 3), 950);
        Check.due("it can be undone yet", s.count(14), 1);
        Check.due("go(49)", s.go(49), 999);
        Check.due("go(1)", s.go(1), -1);
        Check.due("go(0)", s.go(0), 999);
        Check.due("it is 999", s.count(5), 999);
        Check.due("hours ahead may be asked", s.ahead(60, 1), 1);
        Check.due("and tried", s.tried(0, 0, 60), 0);
        Check.due("an image of 999", s.keep(), 999);
        Check.due("back to it", s.back(), 999);
    }

    private static void promise18Ahead() {
        Check.about("promise 18");
        CloudSchool s = Look.rich();
        int[] none = {0, 2, 0, 0};
        int[] one = {0, 2, 2, 0};
        int[] all = {6, 0, 2, 1};
        for (int what = 0; what <= 3; what++) {
            Check.due("ahead(0, " + what + ")", s.ahead(0, what), none[what]);
            Check.due("ahead(1, " + what + ")", s.ahead(1, what), one[what]);
            Check.due("ahead(40, " + what + ")", s.ahead(40, what), all[what]);
            Check.due("ahead(60, " + what + ")", s.ahead(60, what), what == 3 ? 2 : all[what]);
            for (int n : new int[] {-1, 61, 62, MIN, MAX}) {
                Check.due("ahead(" + n + ", " + what + ")", s.ahead(n, what), -1);
            }
        }
        for (int what : new int[] {-1, 4, 5, MIN, MAX}) {
            Check.due("ahead(1, " + what + ")", s.ahead(1, what), -1);
        }
        Look.leaves("ahead", x -> x.ahead(60, 0));
        Look.leaves("ahead refused", x -> x.ahead(61, 0));
    }

    private static void promise19Could() {
        Check.about("promise 19");
        Check.due("a by k", Look.rich().could(), 1);
        Look.leaves("could()", x -> x.could());
    }

    private static void promise20Station() {
        Check.about("promise 20");
        CloudSchool s = Look.rich();
        s.blow(0);
        Check.due("n 1: the first cell from which k sees both", s.station(0, 1, 0), 9);
        Check.due("n 1: how many: a at 2 2, b at 4 1", s.station(0, 1, 1), 2);
        Check.due("n 60: how many, since f joins a", s.station(0, 60, 1), 60 + 60);
        for (int n : new int[] {0, -1, 61, MIN, MAX}) {
            Check.due("station(0, " + n + ", 0)", s.station(0, n, 0), -1);
            Check.due("station(0, " + n + ", 1)", s.station(0, n, 1), -1);
        }
        for (int what : new int[] {-1, 2, MIN, MAX}) {
            Check.due("station(0, 1, " + what + ")", s.station(0, 1, what), -1);
        }
        for (int child : NO_CHILDREN) {
            Check.due("station(" + child + ", 1, 0)", s.station(child, 1, 0), -1);
            Check.due("station(" + child + ", 1, 1)", s.station(child, 1, 1), -1);
        }
        Check.due("the last child: sight 0, a", s.station(2, 1, 0), 10);
        Look.leaves("station", x -> x.station(0, 60, 0));
        Look.leaves("station refused", x -> x.station(3, 1, 0));
    }

    private static void promise21Lacks() {
        Check.about("promise 21");
        Check.due("both", Look.rich().lacks(), 3);
        Look.leaves("lacks()", x -> x.lacks());
    }

    private static void promise22Enough() {
        Check.about("promise 22: -2: not by then; NONE: no such FIELD");
        CloudSchool s = Look.rich();
        Check.due("not by then", s.enough(0), -2);
        Check.due("the last one by b over its hill", s.enough(1), 2);
        for (int field : NO_FIELDS) {
            Check.due("enough(" + field + ")", s.enough(field), -1);
        }
        Look.leaves("enough", x -> x.enough(1));
        Look.leaves("enough refused", x -> x.enough(2));
    }

    private static void promise23Whose() {
        Check.about("promise 23: -2: nobody's did; NONE: no such FIELD");
        CloudSchool s = Look.rich();
        Check.due("none rained", s.whose(0), -2);
        Check.due("nobody's did", s.whose(1), -2);
        for (int field : NO_FIELDS) {
            Check.due("whose(" + field + ")", s.whose(field), -1);
        }
        s = Check.of("cloud a 1 1 9 0;child a 0 0 0;child b 0 0 0;child c 0 0 0;child d 0 0 0;child e 0 0 0;child f 1 1 0;field a 1 1 9;"
            + "field b 0 0 1;field c 0 0 1;field d 0 0 1;field e 1 1 1;law fall 1;");
        s.go(2);
        Check.due("the last child's", s.whose(0), 5);
        Check.due("the last field", s.whose(4), 5);
        Check.due("no sixth field", s.whose(5), -1);
        Look.leaves("whose", x -> x.whose(1));
    }

    private static void promise24And25Swaps() {
        Check.about("promise 24 and 25");
        CloudSchool s = Look.rich();
        Check.due("none: k is nearer to a", s.swaps(), 0);
        Check.due("swap(0)", s.swap(0), -2);
        s.stand(0, 5, 1);
        s.stand(2, 1, 2);
        Check.due("k would have b, m would have a", s.swaps(), 1);
        Check.due("swap(0)", s.swap(0), 1);
        for (int k : new int[] {1, 2, 100, MAX}) {
            Check.due("swap(" + k + ")", s.swap(k), -2);
        }
        for (int k : new int[] {-1, -2, MIN}) {
            Check.due("swap(" + k + ")", s.swap(k), -1);
        }
        Look.leaves("swaps and swap", x -> {
            x.swaps();
            x.swap(0);
            x.swap(-1);
        });
    }
}
