/** Promises 1 to 5: a new object, feed, text, fault, named. */
public final class TextTest {
    public static void main(String[] args) {
        newObject();
        feeding();
        reading();
        cutShort();
        lines();
        wrongTokens();
        tooMuch();
        toldAgain();
        firstFault();
        knots();
        allStaysWithFault();
        textStartsAnew();
        names();
        Check.end("TextTest");
    }

    private static void newObject() {
        CloudSchool school = new CloudSchool();
        int[] counts = {0, 0, 0, 0, 0, 0, 0, 0, 0, 0, 0, 0, 0, 0, 0};
        for (int what = 0; what < counts.length; what++) {
            Check.due("new: count(" + what + ")", school.count(what), counts[what]);
        }
        Check.due("new: text(1) of an empty tape", school.text(1), -2);
        Check.due("new: fault(0)", school.fault(0), 0);
        Check.due("new: fault(1)", school.fault(1), -1);
        Check.due("new: fault(2)", school.fault(2), -1);
        Check.due("new: fault(-1)", school.fault(-1), -1);
        Check.due("new: back()", school.back(), -1);
        Check.due("new: undo()", school.undo(), -1);
        Check.due("new: text(0)", school.text(0), 0);
    }

    private static void feeding() {
        CloudSchool school = new CloudSchool();
        for (int i = 1; i <= 35; i++) {
            Check.due("feed " + i, school.feed(0x20202020, 0x20202020, 0x20202020, 0x20202020, 0x20202020), 20 * i);
        }
        Check.due("feed beyond 700", school.feed(0, 0, 0, 0, 0), -1);
        Check.due("text(701)", school.text(701), -2);
        Check.due("text(700) of blanks", school.text(700), 0);
        Check.due("feed behind text", school.feed(0x7261696e, 0x20333b0a, 0xff000000, 0x80000000, -1), 20);
        Check.due("feed again", school.feed(0, 0, 0, 0, 0), 40);
        Check.due("text(8): the highest byte first", school.text(8), 1);
        Check.due("the tape is empty then", school.text(1), -2);
        school.feed(0x20202020, 0xff202020, 0x20202020, 0x20202020, 0x20202020);
        Check.due("text with byte 255", school.text(20), -1);
        Check.due("its place", school.fault(1), 4);
    }

    private static void reading() {
        CloudSchool school = new CloudSchool();
        int n = Check.feedAll(school, "rain 3;most 2;");
        Check.due("text(-1)", school.text(-1), -2);
        Check.due("text(MIN)", school.text(Integer.MIN_VALUE), -2);
        Check.due("text(21)", school.text(21), -2);
        Check.due("feed: the tape stays with -2", school.feed(0, 0, 0, 0, 0), 40);
        Check.due("text(n)", school.text(n), 2);
        Check.due("a fault empties the tape, too", Check.read(school, "rain"), -1);
        Check.due("text(1) then", school.text(1), -2);
        Check.due("fault(0) stays behind -2", school.fault(0), 1);
        Check.due("fault(1) stays behind -2", school.fault(1), 4);
        Check.due("text(0)", school.text(0), 0);
        Check.due("fault(0) without", school.fault(0), 0);
        Check.due("fault(1) without", school.fault(1), -1);
    }

    /** What lies on the tape behind the first n bytes is no part of the text. */
    private static void cutShort() {
        cutAt("rainx 3;", 4, 4);
        cutAt("rain 12;", 6, 6);
        cutAt("law grow 1<=2;", 11, 11);
        cutAt("law grow 1<>2;", 11, 11);
        CloudSchool school = new CloudSchool();
        Check.feedAll(school, "rain 3;rain 3;");
        Check.due("the first 7 bytes", school.text(7), 1);
    }

    private static void cutAt(String tape, int n, int place) {
        CloudSchool school = new CloudSchool();
        Check.feedAll(school, tape);
        Check.due(n + " bytes of '" + tape + "'", school.text(n), -1);
        Check.due("fault(0) of it", school.fault(0), 1);
        Check.due("fault(1) of it", school.fault(1), place);
    }

    private static void lines() {
        Check.fine("", 0);
        Check.fine("\n  \n", 0);
        Check.fine("water 0 0;hill 5 3;field a 5 3 99;cloud a 5 3 9 99;child a 5 3 9;wind 4;rain 20;most 9;seed 99999;", 9);
        Check.fine("water 1 0;water 0 1;field a 0 0 0;cloud b 0 0 1 0;child c 0 0 0;wind 0;rain 1;most 1;seed 0;", 9);
        Check.fine("\n water\n1\n0 ; rain3;", 2);
        Check.fine("rain 000000000000000000003;", 1);
        Check.fine("field a 0 0 1;field b 0 0 1;field c 0 0 1;field d 0 0 1;field e 0 0 1;", 5);
        Check.fine("field a 0 0 1;cloud a 0 0 1 0;child a 0 0 1;", 3);
        Check.fine("child abcdef 0 0 0;child abcde 0 0 0;child waters 0 0 0;", 3);
        Check.fine("law grow 1;law fall size;law mark(0);", 3);
    }

    private static void wrongTokens() {
        Check.faulty(";", 1, 0);
        Check.faulty("water", 1, 5);
        Check.faulty("water 1 1", 1, 9);
        Check.faulty("water 1 1  ", 1, 11);
        Check.faulty("water 1 1 1;", 1, 10);
        Check.faulty("water 1;", 1, 7);
        Check.faulty("waters 1 1;", 1, 0);
        Check.faulty("  grow;", 1, 2);
        Check.faulty("Water 1 1;", 1, 0);
        Check.faulty("water\t1 1;", 1, 5);
        Check.faulty("water\r1 1;", 1, 5);
        Check.faulty("water -1 1;", 1, 6);
        Check.faulty("field 1 1 1;", 1, 6);
        Check.faulty("field water 1 1 1;", 1, 6);
        Check.faulty("field hour 1 1 1;", 1, 6);
        Check.faulty("child or 1 1 1;", 1, 6);
        Check.faulty("cloud abcdefg 1 1 1 1;", 1, 6);
        Check.faulty("law hill 1;", 1, 4);
        Check.faulty("law ;", 1, 4);
        Check.faulty("law grow;", 1, 8);
        Check.faulty("law grow ", 1, 9);
        Check.faulty("law grow 1 2;", 1, 11);
        Check.faulty("law grow 1 +;", 1, 12);
        Check.faulty("law grow -1;", 1, 9);
        Check.faulty("law grow 1 < 2 < 3;", 1, 15);
        Check.faulty("law grow 1 < 2 + 3 = 3;", 1, 19);
        Check.faulty("law grow 1<=", 1, 12);
        Check.faulty("law grow 1 < = 2;", 1, 13);
        Check.faulty("law grow 1 >< 2;", 1, 12);
        Check.faulty("law grow 1 <>= 2;", 1, 13);
        Check.faulty("law grow 1 + not 2;", 1, 13);
        Check.faulty("law grow 1 < not 2;", 1, 13);
        Check.faulty("law grow 1 not 2;", 1, 11);
        Check.faulty("law grow (1;", 1, 11);
        Check.faulty("law grow (1 + 2", 1, 15);
        Check.faulty("law grow 1);", 1, 10);
        Check.faulty("law grow ();", 1, 10);
        Check.faulty("law grow 1 (2);", 1, 11);
        Check.faulty("law grow puff;", 1, 9);
        Check.faulty("law grow rain;", 1, 9);
        Check.faulty("law grow 1 and;", 1, 14);
        Check.faulty("law grow 1 & 2;", 1, 11);
    }

    private static void tooMuch() {
        Check.faulty("water 6 0;", 2, 6);
        Check.faulty("water 0 4;", 2, 8);
        Check.faulty("hill 99999999999999999999 0;", 2, 5);
        Check.faulty("field a 0 0 100;", 2, 12);
        Check.faulty("cloud a 0 0 0 0;", 2, 12);
        Check.faulty("cloud a 0 0 10 0;", 2, 12);
        Check.faulty("cloud a 0 0 1 100;", 2, 14);
        Check.faulty("child a 0 0 10;", 2, 12);
        Check.faulty("wind 5;", 2, 5);
        Check.faulty("rain 0;", 2, 5);
        Check.faulty("rain 21;", 2, 5);
        Check.faulty("most 0;", 2, 5);
        Check.faulty("most 10;", 2, 5);
        Check.faulty("seed 100000;", 2, 5);
        Check.faulty("law grow 10000;", 2, 9);
        Check.faulty("field a 0 0 1;field b 0 0 1;field c 0 0 1;field d 0 0 1;field e 0 0 1;field f 0 0 1;", 2, 70);
        Check.faulty("cloud a 0 0 1 0;cloud b 0 0 1 0;cloud c 0 0 1 0;cloud d 0 0 1 0;cloud e 0 0 1 0;cloud f 0 0 1 0;"
            + "cloud g 0 0 1 0;cloud h 0 0 1 0;cloud", 2, 128);
        Check.faulty("child a 0 0 1;child b 0 0 1;child c 0 0 1;child d 0 0 1;child e 0 0 1;child f 0 0 1;child 7", 2, 84);
        Check.faulty("wind 0;".repeat(13), 2, 84);
        Check.faulty("law grow (((((((((1)))))))));", 2, 17);
        Check.fine("law grow ((((((((1))))))))+((((((((1))))))));", 1);
    }

    private static void toldAgain() {
        Check.faulty("water 1 2;hill 1 2;", 3, 17);
        Check.faulty("hill 1 2;hill 1 2;", 3, 16);
        Check.faulty("field a 0 0 1;field a 1 1 1;", 3, 20);
        Check.faulty("cloud ab 0 0 1 0;cloud ab 1 1 1 0;", 3, 23);
        Check.faulty("child k 0 0 1;child k 1 1 1;", 3, 20);
        Check.faulty("rain 3;rain 3;", 3, 7);
        Check.faulty("most 3; most 3;", 3, 8);
        Check.faulty("seed 3;seed 3;", 3, 7);
        Check.faulty("law mark 1;law mark 1;", 3, 15);
        Check.faulty("law mark 1;law grow 1;law fall 1;law fall 1;", 3, 37);
    }

    private static void firstFault() {
        Check.faulty("rain 99;water $", 2, 5);
        Check.faulty("rain 3;rain 99;", 3, 7);
        Check.faulty("water 1 1;water 1 9;", 2, 18);
        Check.faulty("law grow 10000 10000;", 2, 9);
        Check.faulty("field f 9 9 999", 2, 8);
    }

    private static void knots() {
        CloudSchool school = Check.of("law mark size+ground*age-far/many<=marks and not hour or 2;law grow (1<>2);");
        Check.due("knots", school.count(4), 19);
        String most = "law grow 0" + "+1".repeat(31) + ";";
        school = Check.of(most + "law fall 1;");
        Check.due("64 knots", school.count(4), 64);
        Check.faulty(most + "law fall 12 + 3;", 2, most.length() + 12);
        Check.faulty(most + "law fall not 3;", 2, most.length() + 13);
        Check.faulty(most + "law fall not )", 1, most.length() + 13);
        Check.faulty("law grow " + "not ".repeat(64) + "7;", 2, 9 + 4 * 64);
        school = Check.of("law grow " + "not ".repeat(63) + "7;");
        Check.due("63 times not", school.count(4), 64);
        school = Check.of("cloud a 0 0 1 0;law grow ((((((((" + "not ".repeat(63) + "7))))))));");
        school.go(1);
        Check.due("63 times not behind eight (", school.law(0, 0), 0);
        Check.faulty("law grow " + "not ".repeat(65) + "7;", 2, 9 + 4 * 64);
    }

    private static void allStaysWithFault() {
        CloudSchool school = Check.of("cloud a 2 2 3 0;child k 2 2 1;rain 9;");
        school.go(2);
        school.stand(0, 1, 2);
        school.note(1, 1, 1, true);
        school.keep();
        Check.due("a text with a fault", Check.read(school, "water 1 1;cloud b 1 1 1 0;hill 1 1;"), -1);
        Check.due("the hour stays", school.count(5), 2);
        Check.due("clouds stay", school.count(1), 1);
        Check.due("ground stays", school.ground(1, 1), 0);
        Check.due("notes stay", school.count(12), 1);
        Check.due("what can be undone stays", school.undo(), 0);
        Check.due("the image stays", school.back(), 2);
        Check.due("as in the image", school.child(0, 0), 1);
    }

    private static void textStartsAnew() {
        CloudSchool school = Check.of("water 0 0;cloud a 2 2 3 0;child k 2 2 1;field f 2 2 3;law grow 1;rain 1;wind 2;");
        school.go(1);
        school.blow(3);
        school.note(1, 1, 1, true);
        school.known(0);
        school.keep();
        Check.due("another text", Check.read(school, "cloud b 1 1 3 0;child k 5 0 9;field f 1 1 9;wind 0;"), 4);
        int[] counts = {1, 1, 1, 1, 0, 0, 0, 0, 1, 0, 0, 0, 0, 0, 0};
        for (int what = 0; what < counts.length; what++) {
            Check.due("anew: count(" + what + ")", school.count(what), counts[what]);
        }
        Check.due("anew: no image", school.back(), -1);
        Check.due("anew: nothing to undo", school.undo(), -1);
        Check.due("anew: ground", school.ground(0, 0), 0);
        Check.cloudIs("anew", school, 0, 1, 1, 3, 0, -1, 0);
        Check.due("anew: all known", school.note(1, 1, 1, false), 0);
        Check.due("anew: by all", school.count(13), 1);
        school.go(1);
        Check.due("anew: rain is 6 again", school.field(0, 3), 0);
        Check.due("anew: no law", school.law(0, 0), Long.MIN_VALUE);
        Check.due("a third text", Check.read(school, "cloud b 1 1 3 0;child k 1 1 9;field f 1 1 9;hill 1 1;law grow 2;"), 5);
        school.go(2);
        Check.due("third: the first one's water is no more", school.ground(0, 0), 0);
        Check.due("third: got", school.field(0, 3), 2 + 2);
        Check.due("third: whose", school.whose(0), 0);
        Check.due("a fourth text", Check.read(school, "cloud b 1 1 3 0;child k 1 1 9;field f 1 1 9;"), 3);
        Check.due("fourth: got", school.field(0, 3), 0);
        Check.due("fourth: whose", school.whose(0), -2);
        Check.due("fourth: marks", school.child(0, 3), 0);
        school.go(1);
        Check.due("fourth: ground", school.ground(1, 1), 0);
        Check.due("fourth: no law", school.law(0, 0), Long.MIN_VALUE);
        Check.due("a fifth text", Check.read(school, "water 1 1;law grow 2;rain 1;rain 2;"), -1);
        Check.due("what was read of it is gone", Check.read(school, "hill 1 1;law grow 2;rain 1;cloud b 1 1 3 0;"), 4);
    }

    private static void names() {
        CloudSchool school = Check.of("field a 0 0 1;field mead 0 0 1;cloud mead 0 0 1 0;child abcdef 0 0 1;child zz 0 0 1;");
        Check.due("field a", school.named(0, Check.letters("a")), 0);
        Check.due("field a is 1 at the highest five bits", school.named(0, 1 << 25), 0);
        Check.due("field mead", school.named(0, Check.letters("mead")), 1);
        Check.due("cloud mead", school.named(1, Check.letters("mead")), 0);
        Check.due("child mead", school.named(2, Check.letters("mead")), -1);
        Check.due("child abcdef", school.named(2, Check.letters("abcdef")), 0);
        Check.due("child zz", school.named(2, Check.letters("zz")), 1);
        Check.due("a part of a name", school.named(0, Check.letters("mea")), -1);
        Check.due("no letters", school.named(0, 0), -1);
        Check.due("letters at the low end", school.named(0, 1), -1);
        Check.due("negative letters", school.named(0, -1), -1);
        Check.due("what 3", school.named(3, Check.letters("a")), -1);
        Check.due("what -1", school.named(-1, Check.letters("a")), -1);
    }
}
