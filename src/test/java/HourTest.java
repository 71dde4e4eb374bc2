/** Promises 6 to 12, 17 and 40: what is now, and how an hour goes. */
public final class HourTest {
    public static void main(String[] args) {
        whatIsNow();
        wrongInputs();
        bornAndDrift();
        windsInTurn();
        growing();
        joining();
        raining();
        given();
        marked();
        lawValues();
        lawsInOneText();
        lawBounds();
        lawErrors();
        going();
        counting();
        Check.end("HourTest");
    }

    private static void whatIsNow() {
        CloudSchool s = Check.of("water 1 2;hill 4 3;field f 4 3 7;cloud a 4 2 3 1;cloud b 0 3 5 0;child k 1 2 2;child l 5 0 0;");
        Check.cloudIs("to come", s, 0, 4, 2, 3, 0, -1, 0);
        Check.due("water", s.ground(1, 2), 1);
        Check.due("hill", s.ground(4, 3), 2);
        Check.due("else", s.ground(2, 1), 0);
        Check.due("a cloud to come is in no cell", s.in(4, 2), 0);
        Check.due("and is not seen", s.sees(0), 0);
        s.go(2);
        Check.cloudIs("in the sky", s, 1, 0, 3, 5, 2, 0, 1);
        Check.cloudIs("without a child", s, 0, 4, 2, 3, 1, -1, 1);
        int[] child = {1, 2, 2, 2, 1, 0};
        for (int what = 0; what < child.length; what++) {
            Check.due("child(0, " + what + ")", s.child(0, what), child[what]);
        }
        int[] field = {4, 3, 7, 0};
        for (int what = 0; what < field.length; what++) {
            Check.due("field(0, " + what + ")", s.field(0, what), field[what]);
        }
        Check.due("sees its own", s.sees(0), 2);
        Check.due("sees nothing", s.sees(1), 0);
        Check.due("in a cell", s.in(0, 3), 2);
        Check.due("in another", s.in(4, 2), 1);
        s.stand(1, 4, 2);
        Check.due("sight 0 is its own cell", s.sees(1), 1);
        s.stand(0, 2, 1);
        Check.due("the greater of both ways", s.sees(0), 3);
        s.stand(0, 3, 1);
        Check.due("three away is too far", s.sees(0), 1);
    }

    private static void wrongInputs() {
        CloudSchool s = Check.of("cloud a 4 2 3 0;child k 1 2 2;field f 1 1 1;law grow 1;");
        s.go(1);
        for (int bad : new int[] {-1, 1, 6, Integer.MAX_VALUE, Integer.MIN_VALUE}) {
            Check.due("no such cloud " + bad, Check.cloudThrows(s, bad, 0), 1);
            Check.due("no such cloud and what " + bad, Check.cloudThrows(s, bad, 6), 1);
            Check.due("no such child " + bad, s.child(bad, 0), -1);
            Check.due("no such field " + bad, s.field(bad, 0), -1);
            Check.due("no such child sees " + bad, s.sees(bad), -1);
            Check.due("no law of " + bad, s.law(0, bad), Long.MIN_VALUE);
        }
        for (int bad : new int[] {-1, 6, Integer.MAX_VALUE, Integer.MIN_VALUE}) {
            Check.due("no such what of a cloud " + bad, Check.cloudThrows(s, 0, bad), 2);
            Check.due("no such what of a child " + bad, s.child(0, bad), -1);
            Check.due("no such what of a field " + bad, s.field(0, bad), -1);
            Check.due("no such x " + bad, s.ground(bad, 0), -1);
            Check.due("no such x in " + bad, s.in(bad, 0), -1);
            Check.due("no such y " + bad, s.ground(0, bad), -1);
            Check.due("no such y in " + bad, s.in(0, bad), -1);
            Check.due("no such law " + bad, s.law(bad, 0), Long.MIN_VALUE);
        }
        Check.due("field what 4", s.field(0, 4), -1);
        Check.due("y 4", s.ground(0, 4), -1);
        Check.due("in y 4", s.in(0, 4), -1);
        Check.due("law what 3", s.law(3, 0), Long.MIN_VALUE);
        Check.due("cloud(0, 5) answers", Check.cloudThrows(s, 0, 5), 0);
    }

    private static void bornAndDrift() {
        CloudSchool s = Check.of("cloud a 4 0 3 0;cloud b 2 2 4 2;wind 1;");
        s.go(1);
        Check.cloudIs("born and drifted in one hour", s, 0, 5, 0, 3, 1, -1, 1);
        s.go(1);
        Check.cloudIs("lost, as it was last", s, 0, 5, 0, 3, 1, -1, 2);
        Check.cloudIs("still to come", s, 1, 2, 2, 4, 0, -1, 0);
        s.go(1);
        Check.cloudIs("born at its hour", s, 1, 3, 2, 4, 1, -1, 1);
        Check.due("lost", s.count(9), 1);
    }

    private static void windsInTurn() {
        CloudSchool s = Check.of("cloud a 2 1 3 0;wind 1;wind 2;wind 3;wind 4;wind 0;");
        int[] x = {3, 3, 2, 2, 2, 3};
        int[] y = {1, 2, 2, 1, 1, 1};
        int[] wind = {1, 2, 3, 4, 0, 1};
        for (int i = 0; i < x.length; i++) {
            Check.due("the wind of hour " + i, s.count(6), wind[i]);
            s.go(1);
            Check.due("x behind hour " + i, s.cloud(0, 0), x[i]);
            Check.due("y behind hour " + i, s.cloud(0, 1), y[i]);
        }
        for (int way = 1; way <= 4; way++) {
            s = Check.of("cloud a " + (way == 1 ? 5 : 0) + (way == 2 ? " 3" : " 0") + " 3 0;wind " + way + ";");
            s.go(1);
            Check.due("lost by wind " + way, s.cloud(0, 5), 2);
            Check.due("its age stays", s.cloud(0, 3), 0);
        }
    }

    private static void growing() {
        CloudSchool s = Check.of("water 0 0;hill 2 2;cloud a 0 0 3 0;cloud b 1 0 3 0;rain 20;law fall 0;cloud c 2 2 3 0;");
        s.go(2);
        Check.due("over water", s.cloud(0, 2), 5);
        Check.due("not over water", s.cloud(1, 2), 3);
        Check.due("not over a hill", s.cloud(2, 2), 3);
        s.go(30);
        Check.due("20 at most", s.cloud(0, 2), 20);
        s = Check.of("cloud a 0 0 3 0;cloud b 1 0 4 0;law grow size-2;rain 20;");
        s.go(1);
        Check.due("by the law", s.cloud(0, 2), 4);
        Check.due("by the law, another", s.cloud(1, 2), 6);
    }

    private static void joining() {
        CloudSchool s = Check.of("cloud a 0 0 3 0;cloud b 0 0 3 0;cloud c 0 0 9 0;cloud d 1 0 9 0;rain 20;child k 0 0 0;");
        s.go(1);
        Check.cloudIs("joins b, then is joined", s, 0, 0, 0, 6, 0, -1, 3);
        Check.cloudIs("joined, alike: the first one stays", s, 1, 0, 0, 3, 0, -1, 3);
        Check.cloudIs("the larger one", s, 2, 0, 0, 15, 1, 0, 1);
        Check.cloudIs("in another cell", s, 3, 1, 0, 9, 1, -1, 1);
        s = Check.of("cloud a 0 0 9 0;cloud b 0 0 9 0;cloud c 0 0 9 0;rain 20;law fall 0;");
        s.go(1);
        Check.due("20 at most", s.cloud(0, 2), 20);
        Check.due("in the sky", s.count(7), 1);
        s = Check.of("cloud a 0 0 3 0;cloud b 0 0 4 0;cloud c 0 0 6 0;rain 20;");
        s.go(1);
        Check.due("a is joined by b", s.cloud(0, 2), 3);
        Check.due("b is larger than c then", s.cloud(1, 2), 13);
        Check.due("c is joined", s.cloud(2, 5), 3);
    }

    private static void raining() {
        CloudSchool s = Check.of("cloud a 0 0 7 0;cloud b 1 0 5 0;cloud c 2 0 1 0;hill 2 0;field f 0 0 9;field g 1 0 9;"
            + "field h 2 0 9;field i 0 0 1;child k 0 0 9;");
        s.go(1);
        Check.due("6 without a line: half, cut", s.field(0, 3), 3);
        Check.due("on each in its cell", s.field(3, 3), 3);
        Check.due("size is less once", s.cloud(0, 2), 4);
        Check.due("5 doesn't rain", s.field(1, 3), 0);
        Check.due("over a hill: 1 at least", s.field(2, 3), 1);
        Check.cloudIs("over", s, 2, 2, 0, 0, 0, -1, 4);
        Check.due("not its child's: it rained before it was given", s.child(0, 5), 0);
        Check.due("in all", s.count(10), 7);
        s.go(1);
        Check.due("below rain it rains no more", s.count(10), 7);
        s = Check.of("hill 0 0;cloud a 0 0 7 0;field f 0 0 9;field g 0 0 9;child k 0 0 0;child l 0 0 0;");
        s.go(1);
        s.go(1);
        Check.due("its child's, on each", s.child(0, 5), 4);
        Check.due("got", s.field(0, 3), 5);
        s = Check.of("cloud a 0 0 7 0;rain 1;law fall size;field f 1 1 1;");
        s.go(1);
        Check.due("it rains without a field, too", s.cloud(0, 5), 4);
    }

    private static void given() {
        CloudSchool s = Check.of("cloud a 1 1 3 0;cloud b 2 1 3 0;cloud c 3 1 3 0;cloud d 5 3 3 0;cloud e 2 3 3 0;"
            + "child k 1 1 1;child l 2 1 1;child m 2 2 1;most 2;");
        s.go(1);
        Check.due("a: the first of several", s.cloud(0, 4), 0);
        Check.due("b: the one with fewest, the first of several", s.cloud(1, 4), 1);
        Check.due("c: the one with fewest", s.cloud(2, 4), 2);
        Check.due("d: nobody sees it", s.cloud(3, 4), -1);
        Check.due("e: whoever sees it", s.cloud(4, 4), 2);
        s = Check.of("cloud a 0 0 3 0;cloud b 1 0 3 0;cloud c 1 1 3 1;child k 0 0 2;most 2;");
        s.go(2);
        Check.due("no more than most", s.cloud(2, 4), -1);
        s.push(0, 4);
        s.go(1);
        Check.due("one less in the sky", s.cloud(2, 4), 0);
        Check.cloudIs("a gone one keeps its child", s, 0, 0, 0, 3, 2, 0, 2);
    }

    private static void marked() {
        CloudSchool s = Check.of("cloud a 1 1 3 0;cloud b 2 1 3 0;child k 1 1 1;child l 5 3 0;wind 0;wind 1;");
        s.go(1);
        Check.due("one for each that it sees", s.child(0, 3), 2);
        s.go(1);
        Check.due("b is too far now", s.child(0, 3), 3);
        Check.due("in sum", s.count(11), 3);
        Check.due("the other one", s.child(1, 3), 0);
        s = Check.of("cloud a 1 1 3 0;cloud b 2 1 3 0;child k 1 1 1;law mark marks+1;");
        s.go(1);
        Check.due("by clouds, each with the marks that there are", s.child(0, 3), 3);
        s.go(1);
        Check.due("and on, 9 at most", s.child(0, 3), 3 + 4 + 8);
        s.go(1);
        Check.due("9 each", s.child(0, 3), 15 + 18);
    }

    private static long worth(String e) {
        CloudSchool s = Check.of("water 1 1;cloud a 1 1 3 0;cloud b 5 3 2 0;child k 1 2 1;law mark " + e + ";");
        s.go(2);
        s.stand(0, 4, 2);
        return s.law(2, 0);
    }

    private static void lawValues() {
        Check.due("size", worth("size"), 5);
        Check.due("ground", worth("ground"), 1);
        Check.due("age", worth("age"), 2);
        Check.due("far", worth("far"), 3);
        Check.due("many", worth("many"), 2);
        Check.due("hour", worth("hour"), 2);
        Check.due("marks", worth("marks+0*many"), 0);
        Check.due("marks of its child", worth("1+marks"), 1 + 1 + 2);
        Check.due("* ahead of +", worth("2+3*4"), 14);
        Check.due("- from the left", worth("9-3-2"), 4);
        Check.due("/ from the left", worth("100/5/2"), 10);
        Check.due("/ and *", worth("7/2*2"), 6);
        Check.due("/ cut towards 0", worth("(0-7)/2"), -3);
        Check.due("brackets", worth("(2+3)*4"), 20);
        Check.due("<", worth("1<2"), 1);
        Check.due("< not", worth("2<2"), 0);
        Check.due("<=", worth("2<=2"), 1);
        Check.due("=", worth("2=2"), 1);
        Check.due("<>", worth("2<>2"), 0);
        Check.due(">=", worth("2>=3"), 0);
        Check.due(">", worth("3>2"), 1);
        Check.due("<= not", worth("3<=2"), 0);
        Check.due("= not", worth("3=2"), 0);
        Check.due("<> of others", worth("3<>2"), 1);
        Check.due(">= of alike", worth("3>=3"), 1);
        Check.due("> of alike", worth("3>3"), 0);
        Check.due("> not", worth("2>3"), 0);
        Check.due("and of 1 and 1", worth("1 and 1"), 1);
        Check.due("and of 7 and 0", worth("7 and 0"), 0);
        Check.due("or of 0 and 1", worth("0 or 1"), 1);
        Check.due("or of 0 and 0", worth("0 or 0"), 0);
        Check.due("+ ahead of <", worth("1+1<2+1"), 1);
        Check.due("not of a comparison", worth("not 1<2"), 0);
        Check.due("not of a number", worth("not 5"), 0);
        Check.due("not not", worth("not not 5"), 1);
        Check.due("not, then and", worth("not 0 and 0"), 0);
        Check.due("and ahead of or", worth("1 or 1 and 0"), 1);
        Check.due("or of others than 0", worth("0 or 7"), 1);
        Check.due("and of others than 0", worth("4 and 7"), 1);
        Check.due("and with a negative", worth("(0-4) and 7"), 1);
        Check.due("brackets with or", worth("(1 or 1) and 0"), 0);
        CloudSchool s = Check.of("cloud a 1 1 3 0;law fall far;law grow marks;child k 5 3 0;");
        Check.due("to come: no value", s.law(1, 0), Long.MIN_VALUE);
        s.go(1);
        Check.due("far without a child", s.law(1, 0), 99);
        Check.due("marks without a child", s.law(0, 0), 0);
        Check.due("no such law", s.law(2, 0), Long.MIN_VALUE);
        s.blow(3);
        s.go(2);
        Check.due("lost: no value", s.law(1, 0), Long.MIN_VALUE);
    }

    private static void lawsInOneText() {
        CloudSchool s = Check.of("cloud a 1 1 3 0;law fall 1+2*3;law grow 0;law mark (size or 1)<2;");
        s.go(1);
        Check.due("fall", s.law(1, 0), 7);
        Check.due("grow", s.law(0, 0), 0);
        Check.due("mark", s.law(2, 0), 1);
    }

    private static void lawBounds() {
        CloudSchool s = Check.of("cloud a 1 1 3 0;child k 1 1 1;law grow 10;law mark 9999;rain 20;");
        s.go(1);
        Check.due("grow: 9 at most", s.cloud(0, 2), 12);
        Check.due("mark: 9 at most", s.child(0, 3), 9);
        Check.due("law() tells it as it is", s.law(2, 0), 9999);
        s = Check.of("cloud a 1 1 3 0;child k 1 1 1;law grow 0-1;law mark 0-5;law fall 0-3;rain 1;field f 1 1 1;");
        s.go(1);
        Check.due("grow: 0 at least", s.cloud(0, 2), 3);
        Check.due("mark: 0 at least", s.child(0, 3), 0);
        Check.due("fall: 0 at least", s.field(0, 3), 0);
        s = Check.of("cloud a 1 1 3 0;law fall 99;rain 1;field f 1 1 1;");
        s.go(1);
        Check.due("fall: its size at most", s.field(0, 3), 3);
        Check.due("over", s.cloud(0, 5), 4);
    }

    private static void lawErrors() {
        Check.due("/ by 0", worth("1/0"), Long.MIN_VALUE);
        Check.due("both sides are worked out", worth("1 or 1/0"), Long.MIN_VALUE);
        Check.due("and's, too", worth("0 and 1/0"), Long.MIN_VALUE);
        Check.due("10 to the 12", worth("1000*1000*1000*1000"), 1000000000000L);
        Check.due("above it", worth("1000*1000*1000*1000+1"), Long.MIN_VALUE);
        Check.due("above it for a while", worth("1000*1000*1000*1000+1-1"), Long.MIN_VALUE);
        Check.due("as far below 0", worth("0-1000*1000*1000*1000"), -1000000000000L);
        Check.due("further below 0", worth("0-1000*1000*1000*1000-1"), Long.MIN_VALUE);
        Check.due("what a long can't hold", worth("(9999*9999*9999)*(9999*9999*9999)"), Long.MIN_VALUE);
        Check.due("what wraps to little", worth("(4096*4096*4096)*(4096*4096*4096)"), Long.MIN_VALUE);
        Check.due("times 0", worth("0*(9999*9999*9999)"), 0);
        CloudSchool s = Check.of("water 1 1;cloud a 1 1 7 0;child k 1 1 1;law grow 1/0;law mark 1/0;law fall 1/0;field f 1 1 1;");
        s.go(1);
        Check.due("fall with an error", s.field(0, 3), 4);
        Check.due("grow with an error", s.cloud(0, 2), 4);
        Check.due("mark with an error", s.child(0, 3), 1);
    }

    private static void going() {
        CloudSchool s = Check.of("cloud a 1 1 7 0;");
        Check.due("go(0)", s.go(0), 0);
        Check.due("nothing was born", s.count(8), 1);
        Check.due("go(-1)", s.go(-1), -1);
        Check.due("go(100)", s.go(100), -1);
        Check.due("none goes by", s.count(5), 0);
        for (int i = 1; i <= 10; i++) {
            Check.due("go(99)", s.go(99), 99 * i);
        }
        Check.due("behind 999", s.go(10), -1);
        Check.due("999", s.go(9), 999);
        Check.due("behind 999", s.go(1), -1);
        Check.due("go(0) at 999", s.go(0), 999);
        Check.due("ahead at 999", s.ahead(60, 1), 1);
    }

    private static void counting() {
        CloudSchool s = Check.of("cloud a 1 1 7 0;cloud b 5 0 3 0;cloud c 1 1 3 50;child k 1 1 2;field f 2 1 1;field g 0 0 2;"
            + "wind 1;wind 0;law mark 1+1;");
        s.go(1);
        s.note(1, 1, 1, true);
        s.note(1, 1, 1, true);
        s.known(1);
        s.blow(4);
        int[] due = {2, 3, 1, 2, 3, 1, 4, 1, 1, 1, 3, 2, 2, 1, 1};
        for (int what = 0; what < due.length; what++) {
            Check.due("count(" + what + ")", s.count(what), due[what]);
        }
        Check.due("count(15)", s.count(15), -1);
        Check.due("count(-1)", s.count(-1), -1);
        s.known(-1);
        Check.due("known by all", s.count(13), 2);
    }
}
