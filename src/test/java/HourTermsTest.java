/** The terms of an HOUR and of a law's VALUES at their edges, a method for each. */
public final class HourTermsTest {
    public static void main(String[] args) {
        bornAtItsHour();
        driftToTheEdge();
        lostForGood();
        grownOverWater();
        grownByLaw();
        grownToTwenty();
        joinedInOneCell();
        joinedToTwenty();
        joinedInTurn();
        rainOfSize();
        rainOverHills();
        halfOfSize();
        fallByLaw();
        fallInTurn();
        rainOnEachField();
        overAtNought();
        seenFromAfar();
        givenToFewest();
        givenUpToMost();
        givenOnce();
        marksOfSeen();
        marksByLaw();
        marksInTurn();
        ageOfEach();
        goneKeepsItsChild();
        namesWithoutChild();
        namesOfNow();
        valuesAtTheBound();
        valuesCutTowardsNought();
        valuesWithError();
        valuesOfLogic();
        Check.end("HourTermsTest");
    }

    private static void bornAtItsHour() {
        Check.about("HOUR (1): CLOUDS whose HOUR it is are BORN");
        CloudSchool s = Check.of("cloud a 2 1 3 0;cloud b 3 1 4 1;cloud c 4 1 5 99;");
        Check.due("all to come", s.count(8), 3);
        s.go(1);
        Check.cloudIs("hour 0 is the first one", s, 0, 2, 1, 3, 1, -1, 1);
        Check.cloudIs("hour 1 is not yet", s, 1, 3, 1, 4, 0, -1, 0);
        s.go(1);
        Check.cloudIs("hour 1", s, 1, 3, 1, 4, 1, -1, 1);
        s.go(97);
        Check.due("it is hour 99", s.count(5), 99);
        Check.cloudIs("hour 99 did not go by", s, 2, 4, 1, 5, 0, -1, 0);
        s.go(1);
        Check.cloudIs("hour 99 went by", s, 2, 4, 1, 5, 1, -1, 1);
        Check.due("none to come", s.count(8), 0);
    }

    private static void driftToTheEdge() {
        Check.about("HOUR (2): beyond the edge it is LOST");
        int[] beforeX = {3, 4, 3, 1, 3};
        int[] beforeY = {1, 1, 2, 1, 1};
        int[] edgeX = {3, 5, 3, 0, 3};
        int[] edgeY = {1, 1, 3, 1, 0};
        for (int wind = 1; wind <= 4; wind++) {
            CloudSchool s = Check.of("cloud a " + beforeX[wind] + " " + beforeY[wind] + " 3 0;wind " + wind + ";");
            s.go(1);
            Check.cloudIs("wind " + wind + " to the last cell", s, 0, edgeX[wind], edgeY[wind], 3, 1, -1, 1);
            s.go(1);
            Check.cloudIs("wind " + wind + " beyond it", s, 0, edgeX[wind], edgeY[wind], 3, 1, -1, 2);
            Check.due("lost", s.count(9), 1);
            Check.due("in no cell", s.in(edgeX[wind], edgeY[wind]), 0);
        }
        for (int corner = 0; corner < 4; corner++) {
            int x = corner % 2 * 5;
            int y = corner / 2 * 3;
            for (int wind = 0; wind <= 4; wind++) {
                CloudSchool s = Check.of("cloud a " + x + " " + y + " 3 0;wind " + wind + ";");
                s.go(1);
                boolean lost = wind == 1 && x == 5 || wind == 3 && x == 0 || wind == 2 && y == 3 || wind == 4 && y == 0;
                Check.due("wind " + wind + " at " + x + " " + y, s.cloud(0, 5), lost ? 2 : 1);
            }
        }
    }

    private static void lostForGood() {
        Check.about("HOUR (2): LOST is GONE");
        CloudSchool s = Check.of("cloud a 5 1 3 0;wind 1;wind 3;water 5 1;hill 4 1;field f 4 1 9;field g 5 1 9;");
        s.go(5);
        Check.cloudIs("it does not come back, nor grow", s, 0, 5, 1, 3, 0, -1, 2);
        Check.due("no rain", s.count(10), 0);
    }

    private static int sizeBy(String text, int hours) {
        CloudSchool s = Check.of("cloud a 2 1 3 0;rain 20;law fall 0;" + text);
        s.go(hours);
        return s.cloud(0, 2);
    }

    private static void grownOverWater() {
        Check.about("HOUR (3): 1 over water, else 0, without");
        Check.due("over water", sizeBy("water 2 1;", 1), 4);
        Check.due("over a hill", sizeBy("hill 2 1;", 1), 3);
        Check.due("elsewhere", sizeBy("", 1), 3);
        Check.due("behind the drift", sizeBy("water 3 1;wind 1;", 1), 4);
        Check.due("not where it was born", sizeBy("water 2 1;wind 1;", 1), 3);
    }

    private static void grownByLaw() {
        Check.about("HOUR (3): E of grow (0 .. 9)");
        Check.due("0", sizeBy("law grow 0;", 1), 3);
        Check.due("0 over water", sizeBy("water 2 1;law grow 0;", 1), 3);
        Check.due("1", sizeBy("law grow 1;", 1), 4);
        Check.due("9", sizeBy("law grow 9;", 1), 12);
        Check.due("10", sizeBy("law grow 10;", 1), 12);
        Check.due("9999 times 9999", sizeBy("law grow 9999*9999;", 1), 12);
        Check.due("below 0", sizeBy("law grow 0-1;", 1), 3);
        Check.due("far below 0, over water", sizeBy("water 2 1;law grow 0-9999*9999;", 1), 3);
        Check.due("an error", sizeBy("law grow 1/0;", 1), 3);
        Check.due("an error over water", sizeBy("water 2 1;law grow 1/0;", 1), 4);
        Check.due("an error over a hill", sizeBy("hill 2 1;law grow 1/0;", 1), 3);
        Check.due("an error of this one alone", sizeBy("water 2 1;law grow 8/(size-3);", 1), 4);
        Check.due("and none of the next hour", sizeBy("water 2 1;law grow 8/(size-3);", 2), 12);
    }

    private static void grownToTwenty() {
        Check.about("HOUR (3): 20 at most");
        Check.due("19", sizeBy("water 2 1;", 16), 19);
        Check.due("20", sizeBy("water 2 1;", 17), 20);
        Check.due("no 21", sizeBy("water 2 1;", 18), 20);
        Check.due("12 and 9", sizeBy("law grow 9;", 2), 20);
        Check.due("12 and 8", sizeBy("law grow 9-hour;", 2), 20);
        Check.due("12 and 7", sizeBy("law grow 9-2*hour;", 2), 19);
    }

    private static void joinedInOneCell() {
        Check.about("HOUR (4): the larger one (the first one, if alike)");
        CloudSchool s = Check.of("cloud a 2 1 3 0;cloud b 2 1 3 0;");
        s.go(1);
        Check.cloudIs("alike: the first one", s, 0, 2, 1, 3, 1, -1, 1);
        s = Check.of("cloud a 2 1 3 0;cloud b 2 1 3 0;rain 20;");
        s.go(1);
        Check.cloudIs("alike: the first one has both", s, 0, 2, 1, 6, 1, -1, 1);
        Check.cloudIs("alike: the second one is joined", s, 1, 2, 1, 3, 0, -1, 3);
        s = Check.of("cloud a 2 1 3 0;cloud b 2 1 4 0;rain 20;");
        s.go(1);
        Check.cloudIs("the second one is larger by 1", s, 1, 2, 1, 7, 1, -1, 1);
        Check.cloudIs("the first one is joined", s, 0, 2, 1, 3, 0, -1, 3);
        s = Check.of("cloud a 2 1 4 0;cloud b 2 1 3 0;rain 20;");
        s.go(1);
        Check.cloudIs("the first one is larger by 1", s, 0, 2, 1, 7, 1, -1, 1);
        s = Check.of("cloud a 2 1 4 0;cloud b 3 1 3 0;cloud c 2 2 3 0;cloud d 1 2 3 0;rain 20;");
        s.go(1);
        Check.due("neighbours don't join", s.count(7), 4);
        s = Check.of("cloud a 2 1 4 0;cloud b 2 1 3 5;rain 20;wind 0;");
        s.go(5);
        Check.due("nor one to come", s.cloud(0, 2), 4);
        s.go(1);
        Check.due("but when it is born", s.cloud(0, 2), 7);
    }

    private static void joinedToTwenty() {
        Check.about("HOUR (4): 20 at most");
        CloudSchool s = Check.of("cloud a 2 1 5 0;cloud b 2 1 4 0;law grow 5;law fall 0;");
        s.go(1);
        Check.due("10 and 9", s.cloud(0, 2), 19);
        s = Check.of("cloud a 2 1 5 0;cloud b 2 1 5 0;law grow 5;law fall 0;");
        s.go(1);
        Check.due("10 and 10", s.cloud(0, 2), 20);
        s = Check.of("cloud a 2 1 5 0;cloud b 2 1 6 0;law grow 5;law fall 0;");
        s.go(1);
        Check.due("10 and 11", s.cloud(1, 2), 20);
        Check.due("the lesser one keeps its size", s.cloud(0, 2), 10);
        s = Check.of("cloud a 2 1 9 0;cloud b 2 1 9 0;cloud c 2 1 9 0;cloud d 2 1 9 0;law fall 0;");
        s.go(1);
        Check.due("9, 9, 9, 9", s.cloud(0, 2), 20);
        Check.due("one is left", s.count(7), 1);
    }

    private static void joinedInTurn() {
        Check.about("HOUR (4): by numbers, each with each one behind it");
        CloudSchool s = Check.of("cloud a 2 1 1 0;cloud b 2 1 5 0;cloud c 2 1 3 0;rain 20;");
        s.go(1);
        Check.due("a has gone to b", s.cloud(0, 2), 1);
        Check.due("b has all", s.cloud(1, 2), 9);
        Check.due("c is joined", s.cloud(2, 5), 3);
        s = Check.of("cloud a 2 1 3 0;cloud b 2 1 2 0;cloud c 2 1 5 0;rain 20;");
        s.go(1);
        Check.due("a and b are 5 and the first one", s.cloud(0, 2), 10);
        s = Check.of("cloud a 2 1 3 0;cloud b 2 1 2 0;cloud c 2 1 6 0;rain 20;");
        s.go(1);
        Check.due("a keeps what it had of b", s.cloud(0, 2), 5);
        Check.due("c has all", s.cloud(2, 2), 11);
        s = Check.of("cloud a 0 0 3 0;cloud b 2 1 2 0;cloud c 0 0 3 0;cloud d 2 1 2 0;rain 20;");
        s.go(1);
        Check.due("two pairs: a", s.cloud(0, 2), 6);
        Check.due("two pairs: b", s.cloud(1, 2), 4);
    }

    private static int gotBy(String text) {
        CloudSchool s = Check.of("field f 2 1 9;" + text);
        s.go(1);
        return s.field(0, 3);
    }

    private static void rainOfSize() {
        Check.about("HOUR (5): of SIZE rain at least");
        for (int rain = 1; rain <= 9; rain++) {
            Check.due("as large as rain " + rain, gotBy("law fall 1;cloud a 2 1 " + rain + " 0;rain " + rain + ";"), 1);
            if (rain > 1) {
                Check.due("1 less than rain " + rain, gotBy("law fall 1;cloud a 2 1 " + (rain - 1) + " 0;rain " + rain + ";"), 0);
            }
        }
        Check.due("6 without a line", gotBy("law fall 1;cloud a 2 1 6 0;"), 1);
        Check.due("5 without a line", gotBy("law fall 1;cloud a 2 1 5 0;"), 0);
        Check.due("rain 20 and 19", gotBy("law fall 1;cloud a 2 1 9 0;cloud b 2 1 9 0;law grow 0;cloud c 2 1 1 0;rain 20;"), 0);
        Check.due("rain 20 and 20", gotBy("law fall 1;cloud a 2 1 9 0;cloud b 2 1 9 0;law grow 0;cloud c 2 1 2 0;rain 20;"), 1);
        Check.due("grown by 1 to rain", gotBy("law fall 1;cloud a 2 1 5 0;water 2 1;"), 1);
        Check.due("joined to rain", gotBy("law fall 1;cloud a 2 1 5 0;cloud b 2 1 1 0;"), 1);
    }

    private static void rainOverHills() {
        Check.about("HOUR (5): or over a hill");
        Check.due("of size 1", gotBy("hill 2 1;cloud a 2 1 1 0;rain 20;"), 1);
        Check.due("water is none", gotBy("water 2 1;cloud a 2 1 1 0;rain 20;"), 0);
        Check.due("a hill beside it is none", gotBy("hill 3 1;cloud a 2 1 1 0;rain 20;"), 0);
        Check.due("that it came to", gotBy("hill 2 1;cloud a 1 1 1 0;rain 20;wind 1;"), 1);
    }

    private static void halfOfSize() {
        Check.about("HOUR (5): half of SIZE, cut, 1 at least");
        int[] half = {0, 1, 1, 1, 2, 2, 3, 3, 4, 4};
        for (int size = 1; size <= 9; size++) {
            CloudSchool s = Check.of("hill 2 1;field f 2 1 9;cloud a 2 1 " + size + " 0;");
            s.go(1);
            Check.due("half of " + size, s.field(0, 3), half[size]);
            Check.due("left of " + size, s.cloud(0, 2), size - half[size]);
            Check.due("over or not, of " + size, s.cloud(0, 5), size == 1 ? 4 : 1);
        }
        Check.due("half of 20", gotBy("cloud a 2 1 9 0;cloud b 2 1 9 0;cloud c 2 1 9 0;"), 10);
        Check.due("with an error", gotBy("cloud a 2 1 7 0;law fall 1/0;"), 3);
        Check.due("with an error: 1 at least", gotBy("cloud a 2 1 1 0;rain 1;law fall 1/0;"), 1);
    }

    private static void fallByLaw() {
        Check.about("HOUR (5): E of fall (0 .. its SIZE)");
        Check.due("0", gotBy("cloud a 2 1 7 0;law fall 0;"), 0);
        Check.due("1", gotBy("cloud a 2 1 7 0;law fall 1;"), 1);
        Check.due("size less 1", gotBy("cloud a 2 1 7 0;law fall size-1;"), 6);
        Check.due("size", gotBy("cloud a 2 1 7 0;law fall size;"), 7);
        Check.due("size and 1", gotBy("cloud a 2 1 7 0;law fall size+1;"), 7);
        Check.due("9999 times 9999", gotBy("cloud a 2 1 7 0;law fall 9999*9999;"), 7);
        Check.due("below 0", gotBy("cloud a 2 1 7 0;law fall 0-1;"), 0);
        Check.due("20 of 20", gotBy("cloud a 2 1 9 0;cloud b 2 1 9 0;cloud c 2 1 9 0;law fall 21;"), 20);
        CloudSchool s = Check.of("cloud a 2 1 7 0;law fall 0-1;");
        s.go(1);
        Check.due("below 0 it keeps its size", s.cloud(0, 2), 7);
        Check.due("and is in the sky", s.cloud(0, 5), 1);
    }

    private static void fallInTurn() {
        Check.about("HOUR (5): by numbers");
        CloudSchool s = Check.of("cloud a 0 0 2 0;cloud b 1 0 2 0;cloud c 2 0 2 0;field f 0 0 9;field g 1 0 9;field h 2 0 9;"
            + "rain 1;law fall many;");
        s.go(1);
        Check.due("a rains out by 3 in the sky", s.field(0, 3), 2);
        Check.due("b rains out by 2 then", s.field(1, 3), 2);
        Check.due("c by 1 that is left", s.field(2, 3), 1);
        Check.due("and stays", s.cloud(2, 5), 1);
    }

    private static void rainOnEachField() {
        Check.about("HOUR (5): RAINS on each FIELD in its CELL");
        CloudSchool s = Check.of("field a 2 1 0;field b 2 1 9;field c 2 2 9;field d 1 1 9;field e 2 1 99;cloud a 2 1 7 0;law fall 5;");
        s.go(1);
        int[] got = {5, 5, 0, 0, 5};
        for (int field = 0; field < 5; field++) {
            Check.due("got by " + field, s.field(field, 3), got[field]);
        }
        Check.due("size is less by it once", s.cloud(0, 2), 2);
        Check.due("in all", s.count(10), 15);
        s = Check.of("cloud a 2 1 7 0;law fall 5;");
        s.go(1);
        Check.due("less without a field, too", s.cloud(0, 2), 2);
        Check.due("in all without a field", s.count(10), 0);
    }

    private static void overAtNought() {
        Check.about("HOUR (5): at 0 it is OVER");
        CloudSchool s = Check.of("cloud a 2 1 7 0;child k 2 1 9;law fall size;wind 0;");
        s.go(1);
        Check.cloudIs("over", s, 0, 2, 1, 0, 0, -1, 4);
        Check.due("no marks", s.child(0, 3), 0);
        Check.due("not seen", s.sees(0), 0);
        s = Check.of("cloud a 2 1 7 0;law fall size-1;");
        s.go(1);
        Check.cloudIs("at 1 it is not", s, 0, 2, 1, 1, 1, -1, 1);
    }

    private static void seenFromAfar() {
        Check.about("SEES: no more than SIGHT away (the greater of both ways)");
        for (int sight = 0; sight <= 9; sight++) {
            CloudSchool s = Check.of("cloud a 0 0 3 0;cloud b 3 1 3 0;child k 0 0 " + sight + ";child l 0 3 " + sight + ";");
            s.go(1);
            Check.due("sight " + sight + " from 0 0", s.sees(0), 1 + (sight >= 3 ? 2 : 0));
            Check.due("sight " + sight + " from 0 3", s.sees(1), (sight >= 3 ? 3 : 0));
            Check.due("given by sight " + sight, s.cloud(1, 4) == -1, sight < 3);
        }
        CloudSchool s = Check.of("cloud a 0 0 3 0;cloud b 5 3 3 0;child k 5 3 4;child l 5 3 5;");
        s.go(1);
        Check.due("4 is less than 5 cells", s.sees(0), 2);
        Check.due("5 is not", s.sees(1), 3);
    }

    private static void givenToFewest() {
        Check.about("HOUR (6): the one with fewest, the first of several");
        CloudSchool s = Check.of("cloud a 0 0 3 0;cloud b 1 0 3 0;cloud c 2 0 3 0;cloud d 3 0 3 0;child k 0 0 9;child l 0 0 9;child m 0 0 9;");
        s.go(1);
        int[] given = {0, 1, 2, 0};
        for (int cloud = 0; cloud < 4; cloud++) {
            Check.due("cloud " + cloud, s.cloud(cloud, 4), given[cloud]);
        }
        s = Check.of("cloud a 0 0 3 0;cloud b 5 0 3 0;cloud c 5 1 3 0;child k 5 0 1;child l 0 0 9;");
        s.go(1);
        Check.due("a: only l sees it", s.cloud(0, 4), 1);
        Check.due("b: k has fewer", s.cloud(1, 4), 0);
        Check.due("c: alike then, the first", s.cloud(2, 4), 0);
    }

    private static void givenUpToMost() {
        Check.about("HOUR (6): has fewer than most in the SKY");
        for (int most = 1; most <= 4; most++) {
            CloudSchool s = Check.of("cloud a 0 0 3 0;cloud b 1 0 3 0;cloud c 2 0 3 0;cloud d 3 0 3 0;child k 0 0 9;most " + most + ";");
            s.go(1);
            Check.due("has with most " + most, s.child(0, 4), most);
            Check.due("the last one given", s.cloud(most - 1, 4), 0);
            if (most < 4) {
                Check.due("the first one not given", s.cloud(most, 4), -1);
            }
        }
        CloudSchool s = Check.of("cloud a 5 0 3 0;cloud b 0 0 3 0;child k 0 0 9;most 1;wind 0;wind 1;wind 0;");
        s.go(1);
        Check.due("a is its own", s.cloud(0, 4), 0);
        Check.due("b is nobody's", s.cloud(1, 4), -1);
        s.go(1);
        Check.due("a is lost in this hour: b is given", s.cloud(1, 4), 0);
        s = Check.of("cloud a 0 0 3 0;cloud b 1 0 3 0;cloud c 2 0 3 1;child k 0 0 9;most 1;");
        s.go(1);
        s.give(1, 0);
        s.go(1);
        Check.due("with more than most by call: none", s.cloud(2, 4), -1);
    }

    private static void givenOnce() {
        Check.about("HOUR (6): without a CHILD");
        CloudSchool s = Check.of("cloud a 0 0 3 0;child k 0 0 0;child l 1 0 0;wind 0;wind 1;wind 0;");
        s.go(1);
        Check.due("given to k", s.cloud(0, 4), 0);
        s.go(1);
        Check.due("l sees it, but k has it", s.cloud(0, 4), 0);
        s.give(0, -1);
        s.go(1);
        Check.due("given anew", s.cloud(0, 4), 1);
        s = Check.of("cloud a 0 0 3 0;child k 5 3 2;");
        s.go(1);
        Check.due("nobody sees it", s.cloud(0, 4), -1);
        s.stand(0, 2, 2);
        s.go(1);
        Check.due("seen later", s.cloud(0, 4), 0);
    }

    private static int marksBy(String law, int childX) {
        CloudSchool s = Check.of("cloud a 0 0 3 0;child k 0 0 1;" + law);
        s.go(1);
        int first = s.child(0, 3);
        s.stand(0, childX, 0);
        s.go(1);
        return s.child(0, 3) - first;
    }

    private static void marksOfSeen() {
        Check.about("HOUR (7): 1, if it SEES it, else 0, without");
        Check.due("where it is", marksBy("", 0), 1);
        Check.due("sight away", marksBy("", 1), 1);
        Check.due("further away", marksBy("", 2), 0);
        Check.due("with an error, seen", marksBy("law mark 1/0;", 1), 1);
        Check.due("with an error, not seen", marksBy("law mark 1/0;", 2), 0);
    }

    private static void marksByLaw() {
        Check.about("HOUR (7): E of mark (0 .. 9)");
        Check.due("0", marksBy("law mark 0;", 0), 0);
        Check.due("1, not seen", marksBy("law mark 1;", 5), 1);
        Check.due("9", marksBy("law mark 9;", 0), 9);
        Check.due("10", marksBy("law mark 10;", 0), 9);
        Check.due("9999 times 9999", marksBy("law mark 9999*9999;", 0), 9);
        Check.due("below 0", marksBy("law mark 0-1;", 0), 0);
    }

    private static void marksInTurn() {
        Check.about("HOUR (7): by CHILDREN, then by CLOUDS");
        CloudSchool s = Check.of("cloud a 0 0 1 0;cloud b 1 0 2 0;cloud c 5 3 3 0;child k 0 0 1;child l 5 3 0;law mark 2*marks+size;");
        s.go(1);
        Check.due("k: 1, then 2 and 2", s.child(0, 3), 1 + 4);
        Check.due("l: its own marks alone", s.child(1, 3), 3);
        Check.due("in sum", s.count(11), 8);
    }

    private static void ageOfEach() {
        Check.about("HOUR: AGE of each in the SKY is 1 more");
        CloudSchool s = Check.of("cloud a 5 1 3 0;cloud b 0 0 3 0;cloud c 0 0 3 3;cloud d 0 2 3 9;wind 0;wind 0;wind 1;wind 3;rain 20;");
        s.go(2);
        Check.due("a is 2", s.cloud(0, 3), 2);
        s.go(1);
        Check.due("a lost one's stays", s.cloud(0, 3), 2);
        Check.due("b is 3", s.cloud(1, 3), 3);
        s.go(1);
        Check.due("joined at once: 0", s.cloud(2, 3), 0);
        Check.due("b goes on", s.cloud(1, 3), 4);
        Check.due("to come: 0", s.cloud(3, 3), 0);
        s = Check.of("cloud a 2 2 3 0;cloud b 3 2 3 0;child k 2 2 0;law mark age;");
        s.go(1);
        Check.due("age 0 in the first hour", s.child(0, 3), 0);
        s.go(1);
        Check.due("age 1 in the second one", s.child(0, 3), 1);
    }

    private static void goneKeepsItsChild() {
        Check.about("HOUR: a CLOUD that is GONE keeps its CHILD");
        CloudSchool s = Check.of("cloud a 5 1 3 0;cloud b 2 2 3 0;cloud c 2 2 9 1;cloud d 3 0 4 0;child k 5 1 0;child l 2 2 0;child m 3 0 0;"
            + "wind 0;wind 0;wind 1;rain 4;law fall size*(hour>0);");
        s.go(2);
        Check.cloudIs("joined", s, 1, 2, 2, 3, 1, 1, 3);
        Check.cloudIs("over", s, 3, 3, 0, 0, 1, 2, 4);
        s.go(1);
        Check.cloudIs("lost", s, 0, 5, 1, 3, 2, 0, 2);
        for (int child = 0; child < 3; child++) {
            Check.due("in the sky of child " + child, s.child(child, 4), 0);
        }
    }

    private static void namesWithoutChild() {
        Check.about("NAMES: far (99 without), marks (0 without)");
        CloudSchool s = Check.of("cloud a 0 0 3 0;child k 5 3 9;law grow far;law fall marks;law mark 5;");
        s.go(1);
        Check.due("far, the greater of both ways", s.law(0, 0), 5);
        Check.due("marks of its child", s.law(1, 0), 5);
        s.stand(0, 2, 3);
        Check.due("far by y", s.law(0, 0), 3);
        s.stand(0, 0, 0);
        Check.due("far at its place", s.law(0, 0), 0);
        s.give(0, -1);
        Check.due("far without", s.law(0, 0), 99);
        Check.due("marks without", s.law(1, 0), 0);
    }

    private static void namesOfNow() {
        Check.about("NAMES: size, ground, age, many, hour");
        CloudSchool s = Check.of("water 1 1;hill 2 2;cloud a 1 1 3 0;cloud b 2 2 9 0;cloud c 3 3 3 0;cloud d 5 0 1 0;cloud e 0 0 1 50;"
            + "law grow ground;law fall many;law mark hour;wind 0;wind 0;");
        s.go(1);
        Check.due("water", s.law(0, 0), 1);
        Check.due("hill", s.law(0, 1), 2);
        Check.due("else", s.law(0, 2), 0);
        Check.due("many: not those to come", s.law(1, 0), 4);
        Check.due("hour", s.law(2, 0), 1);
        s.go(99);
        Check.due("hour 100", s.law(2, 0), 100);
    }

    private static long worth(String e) {
        CloudSchool s = Check.of("cloud a 1 1 3 0;law mark " + e + ";");
        s.go(1);
        return s.law(2, 0);
    }

    private static void error(String e) {
        Check.due(e, worth(e), Long.MIN_VALUE);
    }

    /** 2 to the k, for products that a long would wrap round to 0. */
    private static String power(int k) {
        return "(4096*4096*" + (k <= 36 ? "" + (1 << k - 24) : "4096*" + (1 << k - 36)) + ")";
    }

    private static void valuesAtTheBound() {
        Check.about("VALUES: above 10 to the 12 or below 0 by more than that");
        String million = "1000*1000";
        String most = "(" + million + "*" + million + ")";
        Check.due("10 to the 12", worth(most), 1000000000000L);
        Check.due("10 to the 12 by a sum", worth(most + "-1+1"), 1000000000000L);
        Check.due("as far below 0", worth("0-" + most), -1000000000000L);
        Check.due("as far below 0 by a product", worth("(0-" + million + ")*(" + million + ")"), -1000000000000L);
        Check.due("of two below 0", worth("(0-" + million + ")*(0-" + million + ")"), 1000000000000L);
        error(most + "+1");
        error(most + "+1-1");
        error("0-" + most + "-1");
        error("0-" + most + "-1+1");
        error("(0-" + most + ")-1");
        error("(" + million + "+1)*(" + million + ")");
        error("(0-" + million + "-1)*(" + million + ")");
        error("(0-" + million + "-1)*(0-" + million + ")");
        error(most + "*2");
        error(most + "+" + most);
        error("0-" + most + "-" + most);
        error(most + "*" + most);
        error("(4096*4096*4096)*(4096*4096*4096)");
        error("(4096*4096*4096)*(4096*4096*8)");
        error("(" + most + "+1)*0");
        for (int k = 25; k <= 39; k++) {
            Check.due("2 to the " + k, worth(power(k)), 1L << k);
            error(power(k) + "*" + power(64 - k));
            error("(0-" + power(k) + ")*" + power(64 - k));
            error(power(k) + "*(0-" + power(64 - k) + ")");
        }
        Check.due("times 0", worth("0*" + most), 0);
        Check.due("0 times", worth(most + "*0"), 0);
        Check.due("times 1", worth(most + "*1"), 1000000000000L);
        Check.due("by itself", worth(most + "/" + most), 1);
    }

    private static void valuesCutTowardsNought() {
        Check.about("VALUES: / is cut towards 0");
        Check.due("7/2", worth("7/2"), 3);
        Check.due("-7/2", worth("(0-7)/2"), -3);
        Check.due("7/-2", worth("7/(0-2)"), -3);
        Check.due("-7/-2", worth("(0-7)/(0-2)"), 3);
        Check.due("1/2", worth("1/2"), 0);
        Check.due("-1/2", worth("(0-1)/2"), 0);
        Check.due("0/5", worth("0/5"), 0);
        Check.due("6/2", worth("6/2"), 3);
    }

    private static void valuesWithError() {
        Check.about("VALUES: ERROR: / by 0");
        error("1/0");
        error("0/0");
        error("1/(size-3)");
        error("0*(1/0)");
        error("1/0-1/0");
        error("not (1/0)");
        error("1 or 1/0");
        error("1/0 or 1");
        error("0 and 1/0");
        error("1/0 and 0");
        error("1 < 1/0");
        error("1/0 = 1/0");
        Check.due("by what isn't 0", worth("1/(size-2)"), 1);
        Check.due("by what is below 0", worth("1/(size-4)"), -1);
    }

    private static void valuesOfLogic() {
        Check.about("VALUES: comparisons, and, or, not are 1 or 0");
        String[] signs = {"<", "<=", "=", "<>", ">=", ">"};
        int[][] due = {{1, 1, 0, 1, 0, 0}, {0, 1, 1, 0, 1, 0}, {0, 0, 0, 1, 1, 1}};
        for (int i = 0; i < 6; i++) {
            Check.due("1 " + signs[i] + " 2", worth("1" + signs[i] + "2"), due[0][i]);
            Check.due("2 " + signs[i] + " 2", worth("2" + signs[i] + "2"), due[1][i]);
            Check.due("3 " + signs[i] + " 2", worth("3" + signs[i] + "2"), due[2][i]);
            Check.due("-1 " + signs[i] + " 0", worth("0-1" + signs[i] + "0"), due[0][i]);
        }
        String[] values = {"0", "1", "7", "(0-1)", "(0-7)"};
        for (int i = 0; i < values.length; i++) {
            Check.due("not " + values[i], worth("not " + values[i]), i == 0 ? 1 : 0);
            Check.due("not not " + values[i], worth("not not " + values[i]), i == 0 ? 0 : 1);
            for (int k = 0; k < values.length; k++) {
                Check.due(values[i] + " and " + values[k], worth(values[i] + " and " + values[k]), i > 0 && k > 0 ? 1 : 0);
                Check.due(values[i] + " or " + values[k], worth(values[i] + " or " + values[k]), i > 0 || k > 0 ? 1 : 0);
            }
        }
    }
}
