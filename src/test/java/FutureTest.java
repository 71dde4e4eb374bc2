/** Promises 18 to 30, 35 and 36: hours ahead, and what may be asked of them. */
public final class FutureTest {
    public static void main(String[] args) {
        ahead();
        could();
        station();
        behindOthers();
        restsOfBoth();
        lacksAndEnough();
        whose();
        swaps();
        likely();
        plan();
        planOfSeveral();
        rests();
        chance();
        tried();
        nothingChanges();
        Check.end("FutureTest");
    }

    private static void ahead() {
        CloudSchool s = Check.of("cloud a 1 1 8 0;cloud b 4 0 3 1;child k 2 1 1;field f 3 1 9;field g 3 1 0;wind 1;");
        Check.due("0 hours: rain", s.ahead(0, 0), 0);
        Check.due("0 hours: in the sky", s.ahead(0, 1), 0);
        Check.due("1 hour: rain elsewhere", s.ahead(1, 0), 0);
        Check.due("1 hour: in the sky", s.ahead(1, 1), 1);
        Check.due("1 hour: marks", s.ahead(1, 2), 1);
        Check.due("2 hours: it is below rain", s.ahead(2, 0), 0);
        Check.due("2 hours: in the sky", s.ahead(2, 1), 2);
        Check.due("4 hours: marks", s.ahead(4, 2), 2);
        Check.due("3 hours: lost", s.ahead(3, 3), 1);
        Check.due("60 hours: lost", s.ahead(60, 3), 2);
        Check.due("61 hours", s.ahead(61, 3), -1);
        Check.due("-1 hours", s.ahead(-1, 3), -1);
        Check.due("what 4", s.ahead(1, 4), -1);
        Check.due("what -1", s.ahead(1, -1), -1);
        s = Check.of("cloud a 2 1 8 0;child k 2 1 1;field f 3 1 9;field g 3 1 0;field h 4 1 0;wind 1;rain 3;law fall 3;");
        Check.due("on each field of the cell", s.ahead(1, 0), 6);
        Check.due("and the next one", s.ahead(2, 0), 9);
        s.go(1);
        Check.due("from now on", s.ahead(1, 0), 3);
        Check.due("lost more", s.ahead(9, 3), 1);
        s.go(3);
        Check.due("was lost already", s.ahead(9, 3), 0);
    }

    private static void could() {
        CloudSchool s = Check.of("cloud a 0 0 3 0;cloud b 1 0 3 0;cloud c 2 0 3 0;child k 0 0 1;child l 1 0 2;most 1;");
        Check.due("none in the sky", s.could(), 0);
        s.go(1);
        Check.due("two children, one each", s.could(), 2);
        s = Check.of("cloud a 0 0 3 0;cloud b 1 0 3 0;cloud c 2 0 3 0;child k 0 0 1;child l 1 0 2;most 2;");
        s.go(1);
        Check.due("all", s.could(), 3);
        s = Check.of("cloud a 0 0 3 0;cloud b 5 0 3 0;cloud c 5 1 3 0;child k 5 0 0;child l 5 0 1;child m 5 0 1;most 1;");
        s.go(1);
        Check.due("nobody sees a", s.could(), 2);
        s = Check.of("cloud a 0 0 3 0;cloud b 5 0 3 0;child k 5 0 9;child l 5 0 0;most 1;");
        s.go(1);
        Check.due("anew: k takes a, l takes b", s.could(), 2);
        s.give(0, 1);
        s.give(1, 1);
        Check.due("whoever has them now", s.could(), 2);
        s = Check.of("cloud a 0 0 3 0;cloud b 1 0 3 0;cloud c 2 0 3 0;cloud d 3 0 3 0;cloud e 0 1 3 0;cloud f 1 1 3 0;"
            + "cloud g 2 1 3 0;cloud h 3 1 3 0;child k 0 0 9;");
        s.go(1);
        Check.due("nine at most without a line", s.could(), 8);
    }

    private static void station() {
        CloudSchool s = Check.of("cloud a 1 1 3 0;cloud b 4 3 3 0;cloud c 5 3 3 1;child k 0 0 1;child l 0 0 0;child m 0 0 9;wind 0;");
        Check.due("1 hour: the first of several", s.station(0, 1, 0), 0);
        Check.due("1 hour: how many", s.station(0, 1, 1), 1);
        Check.due("2 hours: b and c", s.station(0, 2, 0), 6 * 2 + 4);
        Check.due("2 hours: how many", s.station(0, 2, 1), 3);
        Check.due("sight 0", s.station(1, 2, 0), 7);
        Check.due("sight 0: how many", s.station(1, 2, 1), 2);
        Check.due("sight 9", s.station(2, 60, 0), 0);
        Check.due("sight 9: how many", s.station(2, 60, 1), 3 * 60 - 1);
        s.stand(0, 5, 3);
        Check.due("wherever it is", s.station(0, 1, 0), 0);
        CloudSchool one = Check.of("cloud a 2 0 3 0;child k 5 3 1;");
        Check.due("the first one to see x 2", one.station(0, 1, 0), 1);
        Check.due("0 hours", s.station(0, 0, 0), -1);
        Check.due("61 hours", s.station(0, 61, 0), -1);
        Check.due("no such child", s.station(3, 1, 0), -1);
        Check.due("nor -1", s.station(-1, 1, 0), -1);
        Check.due("what 2", s.station(0, 1, 2), -1);
        Check.due("what -1", s.station(0, 1, -1), -1);
    }

    /** What was so already is not counted among what is more. */
    private static void behindOthers() {
        CloudSchool s = Check.of("hill 1 1;cloud a 1 1 9 0;child k 1 1 0;child l 1 2 9;field f 1 1 9;law fall 1;");
        s.go(3);
        Check.due("marks so far", s.count(11), 3);
        Check.due("marks more", s.ahead(2, 2), 2);
        Check.due("rain more", s.ahead(2, 0), 2);
        Check.due("chance of more than 2 in 2 hours", s.chance(9, 2, 0, 3), 0);
        Check.due("plan of two hours", s.plan(0, 0, 2), 2);
        Check.due("tried", s.tried(0, 0, 2), 2);
        Check.due("rests: k stays, or has less", s.rests(0, 1), 5);
        Check.due("the first one", s.rest(0, 1, 0), 0);
        Check.due("the last one", s.rest(0, 1, 4), 4);
    }

    /** Each wants the other one elsewhere: joined, one of both has it all. */
    private static void restsOfBoth() {
        CloudSchool s = Check.of("hill 1 1;hill 3 1;cloud a 2 1 4 0;cloud b 2 2 5 0;child k 2 1 0;child l 2 2 0;field f 1 1 9;"
            + "field g 3 1 9;field h 2 2 9;rain 5;law fall size-2;law grow 0;");
        s.go(1);
        Check.due("b rained 3 where it was", s.field(2, 3), 3);
        Check.due("a is 4", s.cloud(0, 2), 4);
        Check.due("b is 2", s.cloud(1, 2), 2);
        Check.due("k joins b where it stays, else it goes to a hill", s.rests(0, 1), 9);
        int[] due = {11, 12, 13, 14, 20, 31, 32, 33, 34, -2};
        for (int i = 0; i < due.length; i++) {
            Check.due("rest " + i, s.rest(0, 1, i), due[i]);
        }
        s = Check.of("hill 2 1;cloud a 1 1 6 0;cloud b 3 1 6 0;child k 1 1 0;child l 3 1 0;field f 2 1 9;field g 1 1 1;"
            + "rain 7;law fall 2+2*(size>6);");
        s.go(1);
        Check.due("l: its cloud is joined if it comes", s.rests(1, 0), 5);
        Check.due("k comes, l any: ten times the first one given", s.rest(1, 0, 0), 1);
        Check.due("last", s.rest(1, 0, 4), 41);
        s = Check.of("cloud a 1 1 3 0;cloud b 2 2 3 0;child k 1 1 0;child l 2 2 0;field f 2 1 9;field g 1 2 9;rain 5;law fall 2;");
        s.go(1);
        Check.due("only both in one cell rain, for k alone", s.rests(0, 1), 17);
        Check.due("nothing, nothing", s.rest(0, 1, 0), 0);
        Check.due("k east, l north", s.rest(0, 1, 6), 14);
        Check.due("k south, l west", s.rest(0, 1, 10), 23);
    }

    private static void lacksAndEnough() {
        CloudSchool s = Check.of("water 1 1;cloud a 1 1 3 1;rain 4;law fall 1;field f 1 1 2;field g 1 1 0;field h 0 0 1;field i 1 1 99;");
        Check.due("lacks", s.lacks(), 1 + 4 + 8);
        Check.due("enough f", s.enough(0), 3);
        Check.due("enough g", s.enough(1), 0);
        Check.due("enough h", s.enough(2), -2);
        Check.due("enough i: 1 an hour of hour 1 on", s.enough(3), -2);
        Check.due("no such field", s.enough(4), -1);
        Check.due("nor -1", s.enough(-1), -1);
        s.go(1);
        Check.due("99 hours", s.enough(3), 99);
        s.go(2);
        Check.due("enough now", s.enough(0), 0);
        Check.due("lacks then", s.lacks(), 4 + 8);
    }

    private static void whose() {
        CloudSchool s = Check.of("hill 1 1;hill 2 2;cloud a 1 1 9 0;cloud b 2 2 9 0;child k 1 1 0;child l 2 2 0;field f 1 1 9;"
            + "field g 2 2 9;field h 1 1 9;law fall 2;");
        s.go(1);
        Check.due("nobody's yet", s.whose(0), -2);
        s.go(1);
        Check.due("k's", s.whose(0), 0);
        Check.due("l's", s.whose(1), 1);
        Check.due("k's, on each", s.whose(2), 0);
        s.give(0, 1);
        s.go(1);
        Check.due("alike: the first of several", s.whose(0), 0);
        s.go(1);
        Check.due("the last one rained 1 more by l", s.whose(0), 1);
        Check.due("what k's own rained", s.child(0, 5), 4);
        CloudSchool one = Check.of("hill 1 1;cloud a 1 1 9 0;child k 1 1 0;field f 1 1 9;law fall 1;");
        one.go(2);
        Check.due("1 is most, too", one.whose(0), 0);
        Check.due("no such field", s.whose(3), -1);
        Check.due("nor -1", s.whose(-1), -1);
    }

    private static void swaps() {
        CloudSchool s = Check.of("cloud a 0 0 3 0;cloud b 3 0 3 0;cloud c 4 0 3 0;cloud d 4 3 3 9;child k 0 0 9;child l 4 0 9;wind 0;");
        s.go(1);
        s.give(0, 1);
        s.give(1, 0);
        s.give(2, 0);
        Check.due("two", s.swaps(), 2);
        Check.due("a and b", s.swap(0), 1);
        Check.due("a and c", s.swap(1), 2);
        Check.due("no third", s.swap(2), -2);
        Check.due("far beyond", s.swap(Integer.MAX_VALUE), -2);
        Check.due("k -1", s.swap(-1), -1);
        s.give(0, -1);
        Check.due("nobody's", s.swaps(), 0);
        s.undo();
        s.give(1, -1);
        Check.due("a and c, b is nobody's", s.swap(0), 2);
        s.undo();
        s.stand(0, 2, 0);
        Check.due("k: b is nearer than a, and c as far", s.swaps(), 0);
        s.undo();
        Check.due("l pushes a beyond the edge", s.push(1, 3), 0);
        Check.due("what is lost isn't swapped", s.swaps(), 0);
        s.undo();
        s.stand(1, 2, 0);
        Check.due("l: b is nearer than a, c is as far", s.swaps(), 1);
        Check.due("a and b alone", s.swap(0), 1);
        s.stand(1, 5, 0);
        s.stand(0, 4, 3);
        Check.due("k is nearer to its own", s.swaps(), 0);
        s = Check.of("cloud a 0 0 3 0;cloud b 3 0 3 0;cloud c 5 0 3 0;cloud d 2 0 3 0;child k 0 0 9;child l 4 0 9;");
        s.go(1);
        s.give(0, 1);
        s.give(1, 1);
        s.give(2, 0);
        s.give(3, 0);
        Check.due("a with c and d, not b with d", s.swaps(), 2);
        Check.due("ten times the first one", s.swap(0), 2);
        Check.due("and the second one", s.swap(1), 3);
        s = Check.of("cloud a 5 3 3 0;cloud b 5 0 3 0;cloud c 0 0 3 0;child k 0 0 9;child l 5 0 9;");
        s.go(1);
        s.give(0, -1);
        s.give(1, 0);
        s.give(2, 1);
        Check.due("b and c", s.swap(0), 12);
    }

    private static void likely() {
        CloudSchool s = Check.of("cloud a 1 1 8 0;field f 2 1 9;field g 5 3 1;field h 1 1 0;");
        Check.due("1 hour: one of five", s.likely(0, 1, 0), 1);
        Check.due("below", s.likely(0, 1, 1), 5);
        Check.due("h: no wind", s.likely(2, 1, 0), 1);
        Check.due("2 hours: it rains only once", s.likely(0, 2, 0), 1);
        Check.due("2 hours: in least terms", s.likely(0, 2, 1), 5);
        Check.due("never", s.likely(1, 5, 0), 0);
        Check.due("never: below", s.likely(1, 5, 1), 1);
        Check.due("0 hours", s.likely(0, 0, 0), -1);
        Check.due("6 hours", s.likely(0, 6, 0), -1);
        Check.due("what 2", s.likely(0, 1, 2), -1);
        Check.due("what -1", s.likely(0, 1, -1), -1);
        Check.due("no such field", s.likely(3, 1, 0), -1);
        Check.due("nor -1", s.likely(-1, 1, 0), -1);
        s = Check.of("cloud a 1 1 8 0;field f 2 1 9;rain 1;law fall 1;wind 3;");
        s.blow(4);
        Check.due("2 hours: east, or none and east", s.likely(0, 2, 0), 6);
        Check.due("2 hours: below", s.likely(0, 2, 1), 25);
        s = Check.of("cloud a 1 1 8 0;field f 1 1 9;rain 1;law fall 0;");
        Check.due("nothing of 0 rains", s.likely(0, 3, 0), 0);
        s = Check.of("cloud a 1 1 8 5;field f 1 1 9;rain 1;");
        s.go(5);
        s.go(1);
        Check.due("all that rained ahead doesn't matter", s.likely(0, 1, 0), 1);
        Check.due("below", s.likely(0, 1, 1), 5);
    }

    private static void plan() {
        CloudSchool s = Check.of("cloud a 1 1 9 0;child k 1 1 1;field f 3 1 9;field g 1 1 3;rain 4;law fall size/2;law grow 0;");
        Check.due("to come: nothing to push in the first hour", s.plan(0, 0, 1), 0);
        s.go(1);
        Check.due("size is 5 now", s.cloud(0, 2), 5);
        Check.due("one hour isn't enough", s.plan(0, 0, 1), 0);
        Check.due("two hours: rains 2 on the way", s.plan(0, 0, 2), 0);
        Check.due("stay where it is", s.plan(0, 1, 1), 2);
        Check.due("push 0", s.step(0, 1, 1, 0), 0);
        s = Check.of("cloud a 1 1 3 0;child k 1 1 3;field f 3 2 9;law grow 2;rain 8;law fall 4;wind 0;wind 0;wind 1;");
        s.go(1);
        Check.due("5 now", s.cloud(0, 2), 5);
        Check.due("one hour: it doesn't rain yet", s.plan(0, 0, 1), 0);
        Check.due("two hours: east, south, and the wind east", s.plan(0, 0, 2), 4);
        Check.due("of both orders the first one", s.step(0, 0, 2, 0), 1);
        Check.due("then south", s.step(0, 0, 2, 1), 2);
        Check.due("three hours: below rain again", s.plan(0, 0, 3), 4);
        Check.due("then nothing", s.step(0, 0, 3, 2), 0);
        s = Check.of("hill 3 2;cloud a 1 1 9 0;child k 1 1 9;field f 3 2 9;law fall 4;rain 20;");
        s.go(1);
        Check.due("three pushes to the hill", s.plan(0, 0, 3), 4);
        int[] first = {1, 1, 2};
        for (int i = 0; i < 3; i++) {
            Check.due("the first by pushes: " + i, s.step(0, 0, 3, i), first[i]);
        }
        Check.due("and stays there", s.plan(0, 0, 4), 8);
        int[] then = {1, 1, 2, 0};
        for (int i = 0; i < 4; i++) {
            Check.due("the first of four: " + i, s.step(0, 0, 4, i), then[i]);
        }
        Check.due("two are too few", s.plan(0, 0, 2), 0);
        Check.due("k beyond n", s.step(0, 0, 3, 3), -2);
        Check.due("k -1", s.step(0, 0, 3, -1), -1);
        Check.due("n 0", s.plan(0, 0, 0), -1);
        Check.due("n 5", s.plan(0, 0, 5), -1);
        Check.due("step n 0", s.step(0, 0, 0, 0), -1);
        Check.due("step n 5", s.step(0, 0, 5, 0), -1);
        Check.due("no such child", s.plan(1, 0, 1), -1);
        Check.due("no such field", s.plan(0, 1, 1), -1);
        Check.due("step: no such child", s.step(-1, 0, 1, 0), -1);
        Check.due("step: no such field", s.step(0, -1, 1, 0), -1);
        Check.due("no such ones ahead of too few", s.step(1, 0, 1, 9), -1);
    }

    private static void planOfSeveral() {
        CloudSchool s = Check.of("hill 2 2;cloud a 1 1 9 0;child k 1 1 9;child l 5 0 0;field f 2 2 9;law fall 4;rain 20;wind 0;wind 1;");
        s.go(1);
        Check.due("south, and the wind is east", s.step(0, 0, 1, 0), 2);
        Check.due("by the wind as it goes", s.plan(0, 0, 1), 4);
        Check.due("another child has none", s.plan(1, 0, 2), 0);
        Check.due("its push", s.step(1, 0, 2, 1), 0);
        Check.due("two hours", s.plan(0, 0, 2), 8);
        Check.due("south, too", s.step(0, 0, 2, 0), 2);
        Check.due("then nothing", s.step(0, 0, 2, 1), 0);
    }

    private static void rests() {
        CloudSchool s = Check.of("hill 2 1;cloud a 1 1 8 0;cloud b 4 1 4 0;child k 1 1 1;child l 4 1 1;field f 2 1 9;field g 5 1 9;rain 20;");
        Check.due("to come: all pairs", s.rests(0, 1), 25);
        s.go(1);
        Check.due("k pushes east, l can't get any", s.rests(0, 1), 5);
        Check.due("first", s.rest(0, 1, 0), 10);
        Check.due("last", s.rest(0, 1, 4), 14);
        Check.due("no more", s.rest(0, 1, 5), -2);
        Check.due("the other way round", s.rest(1, 0, 0), 1);
        Check.due("the other way round, last", s.rest(1, 0, 4), 41);
        Check.due("alike", s.rests(0, 0), -1);
        Check.due("rest alike", s.rest(1, 1, 0), -1);
        Check.due("no such child", s.rests(0, 2), -1);
        Check.due("nor -1", s.rests(-1, 0), -1);
        Check.due("rest: no such child", s.rest(2, 0, 0), -1);
        Check.due("rest: nor -1", s.rest(0, -1, 0), -1);
        Check.due("k -1", s.rest(0, 1, -1), -1);
        s = Check.of("hill 2 1;cloud a 1 1 4 0;cloud b 3 1 4 0;child k 1 1 0;child l 3 1 0;field f 2 1 9;rain 20;");
        s.go(1);
        Check.due("a joins b: the first one has it all, so l stays away or k has more", s.rests(0, 1), 5);
        Check.due("k east, l anywhere: it has nothing if it comes", s.rest(0, 1, 0), 10);
    }

    private static int drawnRain(int seed, int hours) {
        long last = seed;
        int times = 0;
        for (int run = 0; run < 10; run++) {
            int x = 2;
            int y = 1;
            boolean up = true;
            int rain = 0;
            for (int i = 0; i < hours; i++) {
                last = (last * 1103515245L + 12345L) % (1L << 31);
                int wind = (int) (last / 65536 % 5);
                x += wind == 1 ? 1 : wind == 3 ? -1 : 0;
                y += wind == 2 ? 1 : wind == 4 ? -1 : 0;
                up = up && x >= 0 && x < 6 && y >= 0 && y < 4;
                if (up && x == 3 && y == 1) {
                    rain++;
                }
            }
            times += rain >= 2 ? 1 : 0;
        }
        return times;
    }

    private static void chance() {
        CloudSchool s = Check.of("cloud a 2 1 9 0;field f 3 1 9;field g 0 0 0;rain 1;law fall 1;wind 3;seed 77;");
        for (int seed : new int[] {0, 1, 5, 4711, 2147483647, 1234567890}) {
            for (int hours : new int[] {1, 4, 9}) {
                Check.due("chance " + seed + " in " + hours, s.chance(seed, hours, 0, 2), drawnRain(seed, hours));
            }
        }
        Check.due("0 at least", s.chance(5, 60, 0, 0), 10);
        Check.due("999 at least", s.chance(5, 60, 0, 999), 0);
        Check.due("1000", s.chance(5, 60, 0, 1000), -1);
        Check.due("rain -1", s.chance(5, 60, 0, -1), -1);
        Check.due("n 0", s.chance(5, 0, 0, 0), -1);
        Check.due("n 61", s.chance(5, 61, 0, 0), -1);
        Check.due("seed -1", s.chance(-1, 1, 0, 0), -1);
        Check.due("no such field", s.chance(1, 1, 2, 0), -1);
        Check.due("nor -1", s.chance(1, 1, -1, 0), -1);
        Check.due("no hour went by", s.count(5), 0);
    }

    private static void tried() {
        CloudSchool s = Check.of("hill 3 1;cloud a 2 1 4 0;cloud b 2 1 4 0;cloud c 3 2 2 1;field f 3 1 9;field g 2 1 9;"
            + "field h 4 1 9;wind 1;wind 0;rain 9;");
        Check.due("0 hours", s.tried(0, 0, 0), 0);
        Check.due("as it goes", s.tried(0, 0, 1), 4);
        Check.due("as it goes, 2 hours", s.tried(0, 0, 2), 6);
        Check.due("no wind", s.tried(1, 0, 1), 0);
        Check.due("without a", s.tried(2, 0, 1), 2);
        Check.due("without b", s.tried(2, 1, 2), 3);
        Check.due("without c", s.tried(2, 2, 2), 6);
        Check.due("no hills", s.tried(3, 0, 2), 0);
        Check.due("nothing joins: half of 4 each", s.tried(4, 0, 1), 4);
        Check.due("nothing joins, 2 hours", s.tried(4, 0, 2), 6);
        Check.due("water everywhere: 5 + 5 joined rain without a hill", s.tried(5, 0, 1), 5);
        Check.due("i of another", s.tried(0, 1, 1), -1);
        Check.due("i -1", s.tried(4, -1, 1), -1);
        Check.due("no such cloud", s.tried(2, 3, 1), -1);
        Check.due("nor -1", s.tried(2, -1, 1), -1);
        Check.due("n 61", s.tried(0, 0, 61), -1);
        Check.due("n -1", s.tried(0, 0, -1), -1);
        Check.due("what 6", s.tried(6, 0, 1), -1);
        Check.due("what -1", s.tried(-1, 0, 1), -1);
        s.go(1);
        Check.due("without a, that is in the sky", s.tried(2, 0, 5), 0);
        Check.due("without b, that is joined", s.tried(2, 1, 1), s.tried(0, 0, 1));
        s = Check.of("cloud a 1 1 4 0;cloud b 1 1 4 0;field f 1 1 9;rain 5;law fall ground+1;");
        Check.due("joined they rain", s.tried(0, 0, 1), 1);
        Check.due("alone they don't", s.tried(4, 0, 1), 0);
        Check.due("water for the law, too", s.tried(5, 0, 1), 2);
        s = Check.of("cloud a 1 1 9 3;field f 1 1 9;rain 9;");
        Check.due("to come", s.tried(0, 0, 4), 4);
        Check.due("without one to come", s.tried(2, 0, 4), 0);
        s = Check.of("cloud a 1 1 9 0;field f 2 1 9;rain 9;wind 3;");
        s.blow(1);
        Check.due("by the wind by call", s.tried(0, 0, 1), 4);
        Check.due("no wind, neither by call", s.tried(1, 0, 1), 0);
    }

    /** What is asked of hours ahead leaves all as it is. */
    private static void nothingChanges() {
        CloudSchool s = Check.of("hill 3 1;water 2 1;cloud a 2 1 4 0;cloud b 2 2 4 0;cloud c 3 2 2 1;child k 2 1 9;child l 3 3 9;"
            + "field f 3 1 99;wind 1;wind 3;rain 4;");
        s.go(1);
        String before = told(s);
        s.ahead(60, 0);
        s.could();
        s.station(0, 60, 0);
        s.enough(0);
        s.likely(0, 5, 0);
        s.plan(0, 0, 4);
        s.step(1, 0, 3, 1);
        s.rests(0, 1);
        s.rest(0, 1, 1);
        s.note(3, 1, 1, true);
        s.sizes(0);
        s.chance(1, 60, 0, 9);
        for (int what = 0; what <= 5; what++) {
            s.tried(what, 0, 60);
        }
        Check.due("all is as before", told(s).equals(before), true);
    }

    private static String told(CloudSchool s) {
        StringBuilder all = new StringBuilder();
        for (int i = 0; i < 3; i++) {
            for (int what = 0; what < 6; what++) {
                all.append(s.cloud(i, what)).append(' ').append(s.child(i, what)).append(' ').append(s.field(i, what)).append(' ');
            }
        }
        for (int what = 0; what < 12; what++) {
            all.append(s.count(what)).append(' ');
        }
        for (int cell = 0; cell < 24; cell++) {
            all.append(s.ground(cell % 6, cell / 6)).append(s.in(cell % 6, cell / 6)).append(' ');
        }
        return all.toString();
    }
}
