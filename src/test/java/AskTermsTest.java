/** The terms of what is asked of hours ahead, of notes, of chance, of undoing and of images at their edges. */
public final class AskTermsTest {
    public static void main(String[] args) {
        aheadOfNoHours();
        aheadOfSixtyHours();
        couldOfNone();
        couldUpToMost();
        stationOfNone();
        stationOfTheLastCell();
        stationWhereTheChildIs();
        lacksByOne();
        enoughInNinetyNine();
        whoseOfSeveral();
        swapsOfNearer();
        swapsOfAll();
        likelyInLeastTerms();
        likelyInFiveHours();
        pushOfTheFirstSeen();
        planInFourHours();
        planOfSeveral();
        restsOfAllPairs();
        restsByOneMore();
        notesOfHours();
        notesStruck();
        notesKnown();
        sizesOfBits();
        sizesFromTheTextOn();
        chanceBySeeds();
        triedOtherwise();
        triedInSixtyHours();
        triedLeavesNothing();
        twentyUndone();
        undoneUntilAnHour();
        imageButNotes();
        Check.end("AskTermsTest");
    }

    private static void aheadOfNoHours() {
        Check.about("AHEAD for 0 HOURS");
        CloudSchool s = Check.of("hill 1 1;cloud a 1 1 9 0;cloud b 5 0 3 0;cloud c 3 3 3 9;child k 1 1 0;field f 1 1 9;wind 0;wind 0;wind 1;");
        s.go(3);
        Check.due("it rained", s.count(10) > 0, true);
        Check.due("one is lost", s.count(9), 1);
        Check.due("rain", s.ahead(0, 0), 0);
        Check.due("in the sky", s.ahead(0, 1), 1);
        Check.due("marks", s.ahead(0, 2), 0);
        Check.due("lost", s.ahead(0, 3), 0);
    }

    private static void aheadOfSixtyHours() {
        Check.about("AHEAD for 60 HOURS");
        CloudSchool s = Check.of("cloud a 1 1 9 59;cloud b 2 2 9 60;child k 1 1 9;field f 1 1 9;law fall 2;law mark 3;");
        Check.due("59: in the sky", s.ahead(59, 1), 0);
        Check.due("59: rain", s.ahead(59, 0), 0);
        Check.due("60: in the sky", s.ahead(60, 1), 1);
        Check.due("60: rain", s.ahead(60, 0), 2);
        Check.due("60: marks", s.ahead(60, 2), 3);
        Check.due("60: lost", s.ahead(60, 3), 0);
        s.go(1);
        Check.due("60 from hour 1 on: in the sky", s.ahead(60, 1), 2);
        Check.due("from hour 1 on: marks", s.ahead(60, 2), 9);
        s.blow(1);
        Check.due("lost by the wind by call", s.ahead(60, 3), 0);
        s.go(20);
        Check.due("44 hours more: both lost", s.ahead(45, 3), 2);
    }

    private static void couldOfNone() {
        Check.about("COULD of none");
        CloudSchool s = Check.of("cloud a 1 1 3 0;child k 1 1 9;");
        Check.due("to come", s.could(), 0);
        s.go(1);
        Check.due("one", s.could(), 1);
        s.stand(0, 5, 3);
        Check.due("from anywhere by sight 9", s.could(), 1);
        s = Check.of("cloud a 1 1 3 0;child k 3 1 1;");
        s.go(1);
        Check.due("nobody sees it", s.could(), 0);
        s.stand(0, 2, 1);
        Check.due("seen", s.could(), 1);
        s = Check.of("cloud a 1 1 3 0;");
        s.go(1);
        Check.due("no children", s.could(), 0);
    }

    private static void couldUpToMost() {
        Check.about("COULD: none of these having more than most");
        String clouds = "";
        for (int i = 0; i < 8; i++) {
            clouds += "cloud " + (char) ('a' + i) + " " + i % 6 + " " + i / 6 + " 3 0;";
        }
        String children = "";
        int[] byOne = {0, 1, 2, 3, 4, 5, 6};
        int[] byThree = {0, 3, 6, 8, 8, 8, 8};
        for (int n = 1; n <= 6; n++) {
            children += "child " + (char) ('a' + n) + " 0 0 9;";
            CloudSchool s = Check.of(clouds + children + "most 1;");
            s.go(1);
            Check.due(n + " children, most 1", s.could(), byOne[n]);
            s = Check.of(clouds + children + "most 3;");
            s.go(1);
            Check.due(n + " children, most 3", s.could(), byThree[n]);
        }
        CloudSchool s = Check.of("cloud a 0 0 3 0;cloud b 1 0 3 0;cloud c 2 0 3 0;child k 1 0 1;child l 0 0 0;child m 2 0 0;most 1;");
        s.go(1);
        Check.due("k takes b, so that each has one", s.could(), 3);
        s = Check.of("cloud a 0 0 3 0;cloud b 5 0 3 0;cloud c 5 1 3 0;cloud d 5 2 3 0;child k 5 1 1;child l 5 1 1;most 1;");
        s.go(1);
        Check.due("two of four", s.could(), 2);
    }

    private static void stationOfNone() {
        Check.about("STATION: the first of several");
        CloudSchool s = Check.of("child k 3 3 0;cloud a 4 2 3 1;");
        Check.due("none seen: the first cell", s.station(0, 1, 0), 0);
        Check.due("how many", s.station(0, 1, 1), 0);
        Check.due("behind two hours", s.station(0, 2, 0), 16);
        Check.due("how many then", s.station(0, 2, 1), 1);
        s = Check.of("child k 3 3 0;cloud a 4 2 3 0;cloud b 3 2 3 0;cloud c 4 1 3 0;");
        Check.due("three alike", s.station(0, 1, 0), 10);
        s = Check.of("child k 3 3 9;cloud a 4 2 3 0;");
        Check.due("all alike", s.station(0, 60, 0), 0);
        Check.due("60 hours", s.station(0, 60, 1), 60);
    }

    private static void stationOfTheLastCell() {
        Check.about("STATION: the CELL (six times Y and X)");
        CloudSchool s = Check.of("child k 0 0 0;cloud a 5 3 3 0;");
        Check.due("the last cell", s.station(0, 1, 0), 23);
        s = Check.of("child k 0 0 0;cloud a 5 0 3 0;");
        Check.due("x 5", s.station(0, 1, 0), 5);
        s = Check.of("child k 0 0 0;cloud a 0 3 3 0;");
        Check.due("y 3", s.station(0, 1, 0), 18);
        s = Check.of("child k 0 0 1;cloud a 5 3 3 0;");
        Check.due("sight 1", s.station(0, 1, 0), 16);
    }

    private static void stationWhereTheChildIs() {
        Check.about("STATION: as it goes with the CHILD where it is");
        CloudSchool s = Check.of("cloud a 0 0 3 0;child k 5 3 0;rain 1;law fall size*(far>0)*(hour>0);");
        Check.due("the cell", s.station(0, 3, 0), 0);
        Check.due("over in the second hour", s.station(0, 3, 1), 1);
        s.stand(0, 0, 0);
        Check.due("where its own stays", s.station(0, 3, 1), 3);
        Check.due("where it is did not change", s.child(0, 0), 0);
    }

    private static void lacksByOne() {
        Check.about("LACKS: GOT less than NEED");
        CloudSchool s = Check.of("field a 1 1 0;field b 1 1 3;field c 1 1 4;field d 1 1 5;field e 2 2 1;cloud a 1 1 8 0;");
        Check.due("at first all but need 0", s.lacks(), 30);
        s.go(1);
        Check.due("got 4", s.field(2, 3), 4);
        Check.due("5 and what is elsewhere", s.lacks(), 8 + 16);
        s = Check.of("field a 1 1 1;field b 1 1 1;field c 1 1 1;field d 1 1 1;field e 1 1 1;");
        Check.due("all five", s.lacks(), 31);
        Check.due("no fields", new CloudSchool().lacks(), 0);
    }

    private static void enoughInNinetyNine() {
        Check.about("ENOUGH: in how many HOURS, 99 at most");
        String text = "water 1 1;rain 1;law fall 1;field a 1 1 99;field b 1 1 98;field c 1 1 1;field d 1 1 0;field e 2 2 1;";
        CloudSchool s = Check.of(text + "cloud a 1 1 1 0;");
        int[] due = {99, 98, 1, 0, -2};
        for (int field = 0; field < 5; field++) {
            Check.due("enough(" + field + ")", s.enough(field), due[field]);
        }
        s = Check.of(text + "cloud a 1 1 1 1;");
        Check.due("100 is too late", s.enough(0), -2);
        Check.due("99", s.enough(1), 99);
        s.go(1);
        Check.due("an hour later it is 99", s.enough(0), 99);
        s.go(98);
        Check.due("it lacks one", s.enough(0), 1);
        s.go(1);
        Check.due("it doesn't now", s.enough(0), 0);
        s.go(9);
        Check.due("more than enough", s.enough(0), 0);
    }

    private static void whoseOfSeveral() {
        Check.about("WHOSE: the first of several");
        CloudSchool s = Check.of("hill 1 1;cloud a 1 1 9 0;child k 5 3 0;child l 1 1 0;child m 1 1 0;field f 1 1 9;field g 0 0 9;law fall 1;");
        s.go(1);
        Check.due("it rained", s.field(0, 3), 1);
        Check.due("nobody's did", s.whose(0), -2);
        s.go(1);
        Check.due("l's did", s.whose(0), 1);
        s.give(0, 2);
        s.go(1);
        Check.due("l's and m's alike: the first", s.whose(0), 1);
        s.go(1);
        Check.due("m's by one more", s.whose(0), 2);
        s.give(0, 0);
        s.go(2);
        Check.due("k's and m's alike: the first", s.whose(0), 0);
        Check.due("none did there", s.whose(1), -2);
        s.give(0, -1);
        s.go(1);
        Check.due("nobody's counts for none", s.whose(0), 0);
        Check.due("k's", s.child(0, 5), 2);
    }

    private static void swapsOfNearer() {
        Check.about("SWAPS: each of whom would be nearer");
        CloudSchool s = Check.of("cloud a 1 0 3 0;cloud b 3 0 3 0;child k 3 0 9;child l 1 0 9;");
        s.go(1);
        Check.due("a is k's, b is l's: both nearer", s.swaps(), 1);
        Check.due("the pair", s.swap(0), 1);
        s.stand(0, 2, 0);
        Check.due("k is as far from both", s.swaps(), 0);
        s.stand(0, 3, 3);
        Check.due("k is as far from both by y", s.swaps(), 0);
        s.stand(0, 4, 0);
        Check.due("k is nearer to b by far", s.swaps(), 1);
        s.stand(1, 2, 1);
        Check.due("l is as far from both", s.swaps(), 0);
        s.stand(1, 0, 0);
        Check.due("l is nearer to a", s.swaps(), 1);
        s.give(1, 0);
        Check.due("both are k's", s.swaps(), 0);
        s.give(1, -1);
        Check.due("one is nobody's", s.swaps(), 0);
        s.give(1, 1);
        s.push(1, 4);
        Check.due("one is lost", s.swaps(), 0);
        s.undo();
        Check.due("it isn't", s.swaps(), 1);
    }

    /** Four clouds of each of two children, all of them where the other one is. */
    private static void swapsOfAll() {
        Check.about("SWAPS: by the first one, then the second one");
        CloudSchool s = Check.of("cloud a 5 0 1 0;cloud b 0 0 1 0;cloud c 5 1 1 0;cloud d 0 1 1 0;cloud e 5 2 1 0;cloud f 0 2 1 0;"
            + "cloud g 5 3 1 0;cloud h 0 3 1 0;child k 0 1 9;child l 5 1 9;");
        s.go(1);
        for (int cloud = 0; cloud < 8; cloud++) {
            Check.due("by turns, cloud " + cloud, s.cloud(cloud, 4), cloud % 2);
        }
        Check.due("each with each", s.swaps(), 16);
        int k = 0;
        for (int first = 0; first < 8; first++) {
            for (int second = first + 1; second < 8; second += 2) {
                Check.due("swap " + k, s.swap(k), 10 * first + second);
                k++;
            }
        }
        Check.due("the last one was 67", s.swap(15), 67);
        Check.due("no 17th", s.swap(16), -2);
    }

    private static void likelyInLeastTerms() {
        Check.about("LIKELY, as a fraction in least terms");
        CloudSchool s = Check.of("cloud a 2 1 3 0;cloud b 1 1 3 0;cloud c 3 1 3 0;cloud d 2 0 3 0;cloud e 2 2 3 0;rain 1;field f 2 1 9;"
            + "field g 5 3 9;field h 0 0 0;law fall 1;");
        for (int n = 1; n <= 5; n++) {
            Check.due("sure in " + n + ": above", s.likely(0, n, 0), 1);
            Check.due("sure in " + n + ": below", s.likely(0, n, 1), 1);
        }
        Check.due("g in 3: three east and south of c or e are too few", s.likely(1, 3, 0), 0);
        Check.due("never: below", s.likely(1, 3, 1), 1);
        Check.due("h in 1: neither b nor d", s.likely(2, 1, 0), 0);
        Check.due("h in 2: b north and west, both ways, or d twice west", s.likely(2, 2, 0), 3);
        Check.due("h in 2: below", s.likely(2, 2, 1), 25);
        s = Check.of("cloud a 2 1 3 0;rain 1;law fall size;field f 2 1 9;");
        Check.due("no wind at first: one of five", s.likely(0, 1, 0) * 10 + s.likely(0, 1, 1), 15);
        Check.due("then it is over: five of 25", s.likely(0, 2, 0) * 10 + s.likely(0, 2, 1), 15);
    }

    private static void likelyInFiveHours() {
        Check.about("LIKELY: n HOURS 1 .. 5");
        CloudSchool s = Check.of("cloud a 0 0 3 0;rain 3;law fall 3*(hour=4);field f 5 0 9;wind 3;");
        s.blow(4);
        Check.due("five times east: above", s.likely(0, 5, 0), 1);
        Check.due("five times east: below", s.likely(0, 5, 1), 3125);
        Check.due("not in 4", s.likely(0, 4, 0), 0);
        Check.due("nothing went by", s.count(8), 1);
        s = Check.of("hill 5 0;cloud a 1 0 3 0;rain 20;law fall size;field f 5 0 9;");
        Check.due("in 4", s.likely(0, 4, 0), 1);
        Check.due("in 4: below", s.likely(0, 4, 1), 625);
        Check.due("in 5: four times east and any, or none among the first four", s.likely(0, 5, 0), 5 + 4);
        Check.due("in 5: below", s.likely(0, 5, 1), 3125);
    }

    private static void pushOfTheFirstSeen() {
        Check.about("PUSH: its first CLOUD by numbers in the SKY that it SEES");
        CloudSchool s = Check.of("cloud a 5 3 3 0;cloud b 2 2 3 0;cloud c 1 1 3 0;cloud d 3 1 3 0;child k 2 1 9;child l 1 1 0;");
        s.go(1);
        s.give(1, 1);
        s.give(2, 1);
        s.give(0, 0);
        s.give(3, 0);
        Check.due("k sees all: a", s.push(0, 3), 0);
        Check.due("l doesn't see b, so c", s.push(1, 2), 2);
        Check.due("l sees neither", s.push(1, 2), -2);
        s.stand(1, 2, 2);
        Check.due("l sees b alone", s.push(1, 1), 1);
        s.stand(1, 3, 2);
        Check.due("l sees b again", s.push(1, 1), 1);
        Check.cloudIs("b went east twice", s, 1, 4, 2, 3, 1, 1, 1);
        Check.cloudIs("c went south", s, 2, 1, 2, 3, 1, 1, 1);
        s.push(0, 2);
        Check.cloudIs("a went west and is lost in the south", s, 0, 4, 3, 3, 1, 0, 2);
        Check.due("then d", s.push(0, 4), 3);
    }

    private static void planInFourHours() {
        Check.about("PLAN: for n HOURS 1 .. 4");
        CloudSchool s = Check.of("hill 5 1;cloud a 1 1 9 0;child k 1 1 9;field f 5 1 9;rain 20;law fall 5;");
        s.go(1);
        Check.due("3 are too few", s.plan(0, 0, 3), 0);
        Check.due("4 are enough", s.plan(0, 0, 4), 5);
        for (int k = 0; k < 4; k++) {
            Check.due("east " + k, s.step(0, 0, 4, k), 1);
            Check.due("without rain the first by pushes " + k, s.step(0, 0, 3, k), k < 3 ? 0 : -2);
        }
        s = Check.of("hill 2 1;cloud a 1 1 9 0;child k 1 1 0;field f 2 1 9;rain 20;law fall 5;");
        s.go(1);
        Check.due("1 is enough", s.plan(0, 0, 1), 5);
        Check.due("it is east", s.step(0, 0, 1, 0), 1);
        Check.due("what it doesn't see any more it can't push", s.plan(0, 0, 2), 9);
        Check.due("then nothing", s.step(0, 0, 2, 1), 0);
    }

    private static void planOfSeveral() {
        Check.about("PLAN: of several the first by PUSHES 0 .. 4, HOUR by HOUR");
        CloudSchool s = Check.of("hill 2 2;cloud a 1 1 9 0;child k 1 1 9;field f 2 2 9;rain 20;law fall 9;");
        s.go(1);
        int[] two = {1, 2};
        int[] three = {0, 1, 2};
        int[] four = {0, 0, 1, 2};
        for (int k = 0; k < 4; k++) {
            Check.due("two hours " + k, s.step(0, 0, 2, k), k < 2 ? two[k] : -2);
            Check.due("three hours: nothing first " + k, s.step(0, 0, 3, k), k < 3 ? three[k] : -2);
            Check.due("four hours " + k, s.step(0, 0, 4, k), four[k]);
        }
        s.push(0, 1);
        s.push(0, 1);
        s.push(0, 4);
        Check.due("back west and south: 2, 2, 3", s.plan(0, 0, 3), 9);
        int[] back = {2, 2, 3};
        for (int k = 0; k < 3; k++) {
            Check.due("from 3 0: " + k, s.step(0, 0, 3, k), back[k]);
        }
    }

    private static void restsOfAllPairs() {
        Check.about("RESTS: by the first one's, then the second one's");
        CloudSchool s = Check.of("cloud a 1 1 3 5;child k 1 1 9;child l 3 3 9;field f 1 1 9;");
        Check.due("nothing to have: all", s.rests(0, 1), 25);
        for (int k = 0; k < 25; k++) {
            Check.due("rest " + k, s.rest(0, 1, k), 10 * (k / 5) + k % 5);
        }
        Check.due("no 26th", s.rest(0, 1, 25), -2);
    }

    private static void restsByOneMore() {
        Check.about("A REST: neither would have more by another PUSH");
        CloudSchool s = Check.of("hill 2 1;hill 0 1;cloud a 1 1 9 0;cloud b 5 3 9 0;child k 1 1 0;child l 5 3 0;field f 2 1 9;field g 0 1 9;"
            + "hill 4 3;field h 4 3 9;rain 20;law fall 4;");
        s.go(1);
        Check.due("k has as much by 1 and by 3, l by 3", s.rests(0, 1), 2);
        Check.due("first", s.rest(0, 1, 0), 13);
        Check.due("second", s.rest(0, 1, 1), 33);
        Check.due("no third", s.rest(0, 1, 2), -2);
        CloudSchool joining = Check.of("hill 3 1;cloud a 2 1 9 0;cloud b 3 1 8 0;child k 2 1 0;child l 3 1 0;field f 2 1 9;field g 3 1 9;"
            + "rain 7;law fall 2;");
        joining.go(1);
        Check.due("k has 2 by 0 and by 1; l has 2 by 0, but nothing if k comes", joining.rests(0, 1), 6);
        int[] pairs = {0, 10, 11, 12, 13, 14, -2};
        for (int k = 0; k < pairs.length; k++) {
            Check.due("joining: rest " + k, joining.rest(0, 1, k), pairs[k]);
        }
        int[] turned = {0, 1, 11, 21, 31, 41, -2};
        for (int k = 0; k < turned.length; k++) {
            Check.due("joining, turned round: rest " + k, joining.rest(1, 0, k), turned[k]);
        }
        Check.due("l first", s.rest(1, 0, 0), 31);
        Check.due("l first, second", s.rest(1, 0, 1), 33);
    }

    private static void notesOfHours() {
        Check.about("NOTES: behind so many HOURS 1 .. 40");
        CloudSchool s = Check.of("cloud a 1 1 3 0;cloud b 2 2 3 39;cloud c 3 3 3 40;rain 20;");
        s.note(1, 1, 1, true);
        s.note(39, 2, 2, false);
        s.note(40, 2, 2, true);
        s.note(40, 3, 3, false);
        Check.due("all are so", s.sizes(0), 1022);
        s.note(40, 3, 3, true);
        Check.due("c comes behind 40", s.sizes(0), 0);
        s.out(4);
        s.note(39, 2, 2, true);
        Check.due("b comes behind 39", s.sizes(0), 0);
        s.known(4);
        Check.due("the first four", s.sizes(0), 1022);
    }

    private static void notesStruck() {
        Check.about("NOTES: what strikes may be STRUCK: then it doesn't count");
        CloudSchool s = Check.of("cloud a 1 1 3 0;");
        s.note(1, 0, 0, true);
        int due = 0;
        for (int i = 0; i < 23; i++) {
            Check.due("struck in a row of " + i, s.sizes(0), due);
            Check.due("its number", s.out(i), i + 1);
            due = 1022 - due;
        }
        Check.due("24 notes", s.sizes(0), due);
        for (int n = 24; n >= 1; n--) {
            s.known(n);
            Check.due("known by " + n, s.sizes(0), n % 2 == 1 ? 0 : 1022);
        }
        s.known(0);
        Check.due("known by none", s.sizes(0), 1022);
    }

    private static void notesKnown() {
        Check.about("KNOWN by n: the first n that aren't STRUCK by one of these");
        CloudSchool s = Check.of("cloud a 1 1 3 0;");
        s.note(1, 1, 1, true);
        s.note(1, 0, 0, true);
        s.out(1);
        s.note(1, 5, 3, true);
        s.out(3);
        int[] due = {1022, 1022, 0, 1022, 0, 1022};
        for (int n = 0; n <= 5; n++) {
            Check.due("known(" + n + ")", s.known(n), true);
            Check.due("by " + n, s.sizes(0), due[n]);
            Check.due("count(13)", s.count(13), n);
        }
        s.known(-1);
        s.note(1, 5, 3, true);
        Check.due("by all, also those to come", s.sizes(0), 0);
        s.known(5);
        s.out(5);
        Check.due("by 5, not those to come", s.count(13), 5);
    }

    private static void sizesOfBits() {
        Check.about("SIZES: 1 .. 9 (bits)");
        for (int rain = 1; rain <= 10; rain++) {
            CloudSchool s = Check.of("cloud a 1 1 3 0;law fall size;rain " + rain + ";");
            s.note(1, 1, 1, true);
            Check.due("there, rain " + rain, s.sizes(0), (1 << rain) - 2);
            s.out(0);
            s.note(1, 1, 1, false);
            Check.due("not there, rain " + rain, s.sizes(0), 1024 - (1 << rain));
        }
        CloudSchool s = Check.of("cloud a 1 1 3 0;");
        Check.due("without notes all", s.sizes(0), 1022);
        Check.due("its own size stays", s.cloud(0, 2), 3);
        s = Check.of("cloud a 1 1 9 0;cloud b 5 3 1 0;law fall size;rain 9;");
        s.note(1, 1, 1, false);
        Check.due("a is as told for b", s.sizes(1), 1022);
        Check.due("only 9 for a", s.sizes(0), 512);
    }

    private static void sizesFromTheTextOn() {
        Check.about("NOTES: as it goes from the TEXT on");
        CloudSchool s = Check.of("cloud a 1 1 3 0;child k 1 1 0;wind 0;wind 1;rain 20;law grow far=0;law fall 0;");
        s.note(2, 2, 1, true);
        Check.due("at hour 0", s.sizes(0), 1022);
        s.go(1);
        s.blow(3);
        s.stand(0, 5, 3);
        s.push(0, 2);
        s.give(0, -1);
        Check.due("whatever was done", s.sizes(0), 1022);
        s.go(40);
        Check.due("whichever hour it is", s.sizes(0), 1022);
        Check.due("also of one that is lost now", s.cloud(0, 5), 2);
    }

    /** In how many of ten times a cloud from 2 1 is so often in 3 1, by the document's numbers. */
    private static int drawn(long seed, int hours, int least) {
        long last = seed;
        int times = 0;
        for (int run = 0; run < 10; run++) {
            int x = 2;
            int y = 1;
            boolean up = true;
            int rain = 0;
            for (int i = 0; i < hours; i++) {
                last = (last * 1103515245L + 12345L) & 0x7fffffffL;
                long wind = last / 65536 % 5;
                x += wind == 1 ? 1 : wind == 3 ? -1 : 0;
                y += wind == 2 ? 1 : wind == 4 ? -1 : 0;
                up = up && x >= 0 && x < 6 && y >= 0 && y < 4;
                rain += up && x == 3 && y == 1 ? 1 : 0;
            }
            times += rain >= least ? 1 : 0;
        }
        return times;
    }

    private static void chanceBySeeds() {
        Check.about("HOURS by chance");
        CloudSchool s = Check.of("cloud a 2 1 9 0;field f 3 1 9;rain 1;law fall 1;law grow 1;wind 3;seed 99999;");
        s.blow(2);
        int[] seeds = {0, 1, 2, 65535, 65536, 99999, 100000, 1 << 30, 2147483646, 2147483647};
        for (int seed : seeds) {
            for (int hours : new int[] {1, 2, 20, 60}) {
                for (int least = 0; least <= 4; least++) {
                    Check.due("seed " + seed + ", hours " + hours + ", rain " + least, s.chance(seed, hours, 0, least),
                        drawn(seed, hours, least));
                }
            }
        }
    }

    private static void triedOtherwise() {
        Check.about("TRIED: no WIND, without CLOUD i, no hills, nothing JOINS, water everywhere");
        CloudSchool s = Check.of("cloud a 1 1 9 0;cloud b 1 1 2 1;field f 1 1 9;field g 2 1 9;wind 1;rain 9;law fall 4;law grow 0;");
        Check.due("as it goes", s.tried(0, 0, 1), 4);
        Check.due("no wind", s.tried(1, 0, 1), 4);
        s.blow(2);
        Check.due("by the wind by call", s.tried(0, 0, 1), 0);
        Check.due("no wind by call, either", s.tried(1, 0, 1), 4);
        Check.due("without the one in the sky", s.tried(2, 0, 60), 0);
        s = Check.of("cloud a 1 1 5 0;cloud b 1 1 4 1;field f 1 1 9;rain 9;law fall 4;law grow 0;");
        Check.due("joined", s.tried(0, 0, 2), 4);
        Check.due("without one to come", s.tried(2, 1, 2), 0);
        Check.due("nothing joins", s.tried(4, 0, 60), 0);
        s.go(2);
        Check.due("without one that is joined: as it goes", s.tried(2, 1, 9), s.tried(0, 0, 9));
        Check.due("all is as it was", s.cloud(1, 5), 3);
        s = Check.of("hill 1 1;water 2 1;cloud a 1 1 5 0;cloud b 2 1 5 0;field f 1 1 9;field g 2 1 9;law fall 1+10*ground;rain 6;law grow ground;");
        Check.due("as it goes: a 7 by its hill, b 6 by water", s.tried(0, 0, 1), 13);
        Check.due("no hills: a doesn't grow, b is 6", s.tried(3, 0, 1), 6);
        Check.due("water everywhere: each is 6", s.tried(5, 0, 1), 12);
        Check.due("the ground is as it was", s.ground(1, 1), 2);
    }

    private static void triedInSixtyHours() {
        Check.about("TRIED for n HOURS");
        CloudSchool s = Check.of("cloud a 1 1 9 59;cloud b 1 1 9 60;field f 1 1 9;law fall 2;");
        for (int what = 0; what <= 5; what++) {
            int without = what == 2 ? 1 : 0;
            Check.due("0 hours, what " + what, s.tried(what, without, 0), 0);
            Check.due("59 hours, what " + what, s.tried(what, without, 59), 0);
            Check.due("60 hours, what " + what, s.tried(what, without, 60), 2);
        }
        Check.due("60 hours without a", s.tried(2, 0, 60), 0);
        s.go(60);
        Check.due("what rained ahead is not counted", s.tried(0, 0, 0), 0);
    }

    /** What is asked behind a sky tried otherwise is of the sky as it goes. */
    private static void triedLeavesNothing() {
        Check.about("TRIED: what is asked then is as it goes");
        String text = "hill 3 1;water 0 0;cloud a 2 1 5 0;cloud b 2 1 4 0;cloud c 1 1 6 0;child k 2 1 9;child l 1 1 1;field f 3 1 20;field g 2 1 9;"
            + "wind 1;wind 0;wind 3;rain 6;law fall 1+ground;law grow ground=1;";
        for (int what = 0; what <= 5; what++) {
            CloudSchool plain = Check.of(text);
            CloudSchool s = Check.of(text);
            for (int hour = 0; hour < 2; hour++) {
                plain.go(1);
                s.go(1);
                s.tried(what, 0, 9);
                Check.alike("hour " + hour + " behind tried(" + what + ")", asked(s, what), asked(plain, -1));
            }
        }
    }

    private static String asked(CloudSchool s, int what) {
        StringBuilder all = new StringBuilder();
        if (s.count(12) == 0) {
            s.note(1, 3, 1, true);
            s.note(2, 3, 1, true);
            s.note(3, 2, 1, true);
        }
        for (int i = 0; i < 14; i++) {
            if (what >= 0) {
                s.tried(what, 0, 9);
            }
            all.append(answer(s, i)).append(' ');
        }
        return all.toString();
    }

    private static int answer(CloudSchool s, int i) {
        switch (i) {
            case 0:
            case 1:
            case 2:
                return s.sizes(i);
            case 3:
                return s.station(0, 5, 0);
            case 4:
                return s.station(1, 5, 1);
            case 5:
                return s.enough(0);
            case 6:
                return s.likely(0, 3, 0);
            case 7:
                return s.plan(0, 0, 3);
            case 8:
                return s.step(0, 0, 3, 1);
            case 9:
                return s.rests(0, 1);
            case 10:
                return s.rest(0, 1, 1);
            case 11:
                return s.chance(3, 6, 0, 2);
            case 12:
                return s.ahead(5, 0);
            default:
                return s.tried(0, 0, 5);
        }
    }

    private static void twentyUndone() {
        Check.about("undone, the latest first (20 at most)");
        CloudSchool s = Check.of("child k 0 0 0;");
        for (int i = 1; i <= 20; i++) {
            s.stand(0, i % 6, i / 6);
        }
        Check.due("20", s.count(14), 20);
        for (int i = 19; i >= 0; i--) {
            Check.due("undo", s.undo(), i);
            Check.due("where it was", 6 * s.child(0, 1) + s.child(0, 0), i);
        }
        Check.due("no more", s.undo(), -1);
        for (int i = 1; i <= 21; i++) {
            s.stand(0, i % 6, i / 6);
        }
        Check.due("20 of 21", s.count(14), 20);
        for (int i = 20; i >= 1; i--) {
            Check.due("undo of 21", s.undo(), i - 1);
            Check.due("where it was of 21", 6 * s.child(0, 1) + s.child(0, 0), i);
        }
        Check.due("the first one stays done", s.undo(), -1);
        Check.due("it stands where the first one sent it", s.child(0, 0), 1);
    }

    private static void undoneUntilAnHour() {
        Check.about("undone, if no HOUR went by since");
        CloudSchool s = Check.of("cloud a 5 0 3 0;child k 5 0 9;wind 0;");
        s.go(1);
        s.push(0, 1);
        Check.due("lost", s.cloud(0, 5), 2);
        s.undo();
        Check.cloudIs("in the sky again", s, 0, 5, 0, 3, 1, 0, 1);
        s.push(0, 1);
        s.stand(0, 1, 1);
        s.blow(4);
        s.go(0);
        s.go(-1);
        s.go(100);
        Check.due("no hour went by", s.count(14), 3);
        s.go(1);
        Check.due("one did", s.count(14), 0);
        Check.due("none to undo", s.undo(), -1);
        s.stand(0, 2, 2);
        Check.due("one since", s.undo(), 0);
        Check.due("as it was behind the hour", s.child(0, 0), 1);
        Check.due("nothing of before", s.undo(), -1);
    }

    private static void imageButNotes() {
        Check.about("An IMAGE keeps all but NOTES");
        CloudSchool s = Check.of("hill 1 1;cloud a 1 1 9 0;cloud b 3 3 2 3;cloud c 0 0 2 0;child k 1 1 1;child l 3 3 9;field f 1 1 9;law fall 1;");
        s.go(2);
        s.blow(0);
        s.stand(1, 0, 0);
        s.give(2, 1);
        s.note(1, 1, 1, true);
        String then = Look.now(s);
        Check.due("keep", s.keep(), 2);
        Check.alike("keep leaves all", Look.now(s), then);
        s.note(2, 0, 0, false);
        s.known(1);
        s.push(0, 2);
        s.blow(1);
        s.go(5);
        s.stand(0, 5, 3);
        s.give(0, -1);
        Check.due("back", s.back(), 2);
        Check.due("nothing to undo then", s.undo(), -1);
        Check.due("notes stay", s.count(12), 2);
        Check.due("known by one stays", s.count(13), 1);
        int known = then.indexOf(" clouds");
        Check.alike("clouds, children and fields", Look.now(s).substring(Look.now(s).indexOf(" clouds")), then.substring(known));
        Check.due("the hour", s.count(5), 2);
        Check.due("the wind by call", s.count(6), 0);
        Check.due("it is so", s.blow(0), false);
        s.go(9);
        Check.due("back again", s.back(), 2);
    }
}
