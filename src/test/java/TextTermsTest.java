/** The terms of a TEXT at their edges, a method for each: the last that is allowed, and the first that isn't. */
public final class TextTermsTest {
    private static final String[] LINE_WORDS = {"water", "hill", "field", "cloud", "child", "wind", "rain", "most", "seed", "law"};
    private static final String[] OTHER_WORDS = {"grow", "fall", "mark", "or", "and", "not", "size", "ground", "age", "far",
        "many", "marks", "hour"};
    /** 64 KNOTS that end with a whole part: a 65th may come, or not. */
    private static final String FULL = "law grow not 0" + "+1".repeat(31);

    public static void main(String[] args) {
        textOfNoLines();
        textOfManyBytes();
        blanksAndSigns();
        signsInE();
        wordsOfTheLanguage();
        namesByLetters();
        numbersByDigits();
        numbersBeyond();
        numbersAreTold();
        fieldsAtMost();
        cloudsAtMost();
        childrenAtMost();
        windsAtMost();
        windsAgainFromTheFirst();
        defaultsWithoutLines();
        groundToldOnce();
        namesToldOnce();
        linesToldOnce();
        lawsToldOnce();
        signsOfTwo();
        comparedOnce();
        notAheadOfComparisons();
        nineOpen();
        knotsOfAll();
        knotsOfEachText();
        faultAtTheLength();
        firstFaultAlongTheText();
        leastFaultOfOnePlace();
        Check.end("TextTermsTest");
    }

    private static void textOfNoLines() {
        Check.about("TEXT without LINES");
        Check.fine("", 0);
        Check.fine(" ", 0);
        Check.fine("\n", 0);
        Check.faulty(";", 1, 0);
        Check.faulty("rain 3;;", 1, 7);
        Check.faulty("rain 3; ;", 1, 8);
    }

    private static void textOfManyBytes() {
        Check.about("TEXT of 700 bytes");
        Check.fine(" ".repeat(700), 0);
        Check.fine(" ".repeat(693) + "rain 3;", 1);
        Check.fine("rain 3;" + "\n".repeat(693), 1);
        Check.faulty(" ".repeat(694) + "rain 3", 1, 700);
        Check.faulty(" ".repeat(699) + "$", 1, 699);
        Check.faulty("rain" + " ".repeat(696), 1, 700);
        Check.fine("child " + "a 0 0 " + "0".repeat(687) + ";", 1);
        Check.faulty("a".repeat(700), 1, 0);
    }

    /** Each of the 256 bytes in a place where a blank may be. */
    private static void blanksAndSigns() {
        Check.about("TEXT: blanks 10, 32");
        for (char sign = 0; sign < 256; sign++) {
            String text = "rain" + sign + "3;";
            if (sign == 10 || sign == 32 || sign == '0' || sign == '1') {
                Check.fine(text, 1);
            } else if (sign >= '2' && sign <= '9') {
                Check.faulty(text, 2, 4);
            } else if (sign >= 'a' && sign <= 'z') {
                Check.faulty(text, 1, 0);
            } else {
                Check.faulty(text, 1, 4);
            }
        }
        Check.fine(" \n rain \n 3 \n ; \n ", 1);
        Check.fine("water1 1;hill 2 2;rain3;", 3);
        Check.faulty("ra in 3;", 1, 0);
        Check.faulty("rain 1 0;", 1, 7);
    }

    /** Each of the 256 bytes in a place where a sign of E may be. */
    private static void signsInE() {
        Check.about("E: signs");
        for (char sign = 0; sign < 256; sign++) {
            String text = "law grow 1" + sign + "2;";
            if ("+-*/<=>0123456789".indexOf(sign) >= 0) {
                Check.fine(text, 1);
            } else if (sign == 10 || sign == 32 || sign == ';') {
                Check.faulty(text, 1, 11);
            } else {
                Check.faulty(text, 1, 10);
            }
        }
    }

    private static void wordsOfTheLanguage() {
        Check.about("TEXT: words of the language");
        for (String word : LINE_WORDS) {
            Check.faulty(word, 1, word.length());
            Check.faulty(word + "x 1;", 1, 0);
            Check.faulty(word.substring(1) + " 1;", 1, 0);
            Check.faulty("field " + word + " 0 0 0;", 1, 6);
            Check.faulty("cloud " + word + " 0 0 1 0;", 1, 6);
            Check.faulty("child " + word + " 0 0 0;", 1, 6);
            Check.faulty("law grow " + word + ";", 1, 9);
            Check.faulty("law " + word + " 1;", 1, 4);
        }
        for (String word : OTHER_WORDS) {
            Check.faulty(word + " 1;", 1, 0);
            Check.faulty("field " + word + " 0 0 0;", 1, 6);
            Check.faulty("cloud " + word + " 0 0 1 0;", 1, 6);
            Check.faulty("child " + word + " 0 0 0;", 1, 6);
        }
        for (String rule : new String[] {"grow", "fall", "mark"}) {
            Check.fine("law " + rule + " 1;", 1);
            Check.faulty("law grow " + rule + ";", 1, 9);
        }
        for (String word : new String[] {"or", "and", "not", "a", "grows", "rule", "1", ";", "("}) {
            Check.faulty("law " + word + " 1;", 1, 4);
        }
        for (String name : new String[] {"size", "ground", "age", "far", "many", "marks", "hour"}) {
            Check.fine("law grow " + name + ";", 1);
            Check.faulty("law " + name + " 1;", 1, 4);
            Check.faulty("law grow " + name + "z;", 1, 9);
        }
        Check.faulty("Rain 3;", 1, 0);
        Check.faulty("raiN 3;", 1, 0);
    }

    private static void namesByLetters() {
        Check.about("W: one of 1 .. 6 letters");
        for (String kind : new String[] {"field", "child"}) {
            Check.fine(kind + " a 0 0 0;", 1);
            Check.fine(kind + " z 0 0 0;", 1);
            Check.fine(kind + " zzzzzz 0 0 0;", 1);
            Check.faulty(kind + " aaaaaaa 0 0 0;", 1, 6);
            Check.faulty(kind + " 1 0 0 0;", 1, 6);
            Check.faulty(kind + " A 0 0 0;", 1, 6);
            Check.faulty(kind + " 0 0 0;", 1, 6);
            Check.faulty(kind + " a b 0 0 0;", 1, 8);
        }
        Check.fine("cloud a 0 0 1 0;", 1);
        Check.fine("cloud zzzzzz 0 0 1 0;", 1);
        Check.faulty("cloud zzzzzzz 0 0 1 0;", 1, 6);
        Check.fine("field waters 0 0 0;field wate 0 0 0;field lawn 0 0 0;field nor 0 0 0;", 4);
        Check.faulty("field grounds 0 0 0;", 1, 6);
        Check.fine("cloud a1 2 3 4;", 1);
    }

    private static void numbersByDigits() {
        Check.about("N: digits");
        Check.fine("rain 00000000000000000000000000020;", 1);
        Check.faulty("rain 00000000000000000000000000021;", 2, 5);
        Check.fine("rain 3 ;", 1);
        Check.faulty("rain -3;", 1, 5);
        Check.faulty("rain +3;", 1, 5);
        Check.faulty("rain 3.0;", 1, 6);
        Check.faulty("rain x;", 1, 5);
        Check.faulty("rain (3);", 1, 5);
        Check.faulty("rain 3x;", 1, 6);
        Check.faulty("wind 1 2;", 1, 7);
        Check.faulty("water 1;", 1, 7);
        Check.faulty("water 1 2 3;", 1, 10);
        Check.faulty("field f 1 2;", 1, 11);
        Check.faulty("field f 1 2 3 4;", 1, 14);
        Check.faulty("cloud c 1 2 3;", 1, 13);
        Check.faulty("cloud c 1 2 3 4 5;", 1, 16);
        Check.faulty("child k 1 2;", 1, 11);
        Check.faulty("child k 1 2 3 4;", 1, 14);
        Check.faulty("rain;", 1, 4);
        Check.faulty("most;", 1, 4);
        Check.faulty("seed;", 1, 4);
        Check.faulty("wind;", 1, 4);
    }

    /** A line with one number open: its least and its most are fine, the next ones are not, nor what would wrap round to them. */
    private static void bounds(String line, int least, int most) {
        int place = line.indexOf('#');
        Check.about("N of '" + line + "'");
        Check.fine(line.replace("#", "" + least), 1);
        Check.fine(line.replace("#", "" + most), 1);
        Check.faulty(line.replace("#", "" + (most + 1)), 2, place);
        Check.faulty(line.replace("#", "" + (10 * most + 9)), 2, place);
        if (least > 0) {
            Check.faulty(line.replace("#", "" + (least - 1)), 2, place);
        }
        Check.faulty(line.replace("#", "" + (256 + most)), 2, place);
    }

    private static void boundsOfLarge(String line, int most) {
        int place = line.indexOf('#');
        Check.about("N of '" + line + "' that would wrap round");
        for (long wrap : new long[] {1L << 16, 1L << 31, 1L << 32, 1L << 33, 1L << 40}) {
            if (wrap > most) {
                Check.faulty(line.replace("#", "" + (wrap + 1)), 2, place);
            }
        }
        Check.faulty(line.replace("#", "2147483647"), 2, place);
        Check.faulty(line.replace("#", "18446744073709551617"), 2, place);
        Check.faulty(line.replace("#", "1" + "0".repeat(100) + "1"), 2, place);
        Check.faulty(line.replace("#", "9".repeat(300)), 2, place);
    }

    private static void numbersBeyond() {
        String[] lines = {"water # 0;", "water 0 #;", "hill # 0;", "hill 0 #;", "field f # 0 0;", "field f 0 # 0;", "field f 0 0 #;",
            "cloud c # 0 1 0;", "cloud c 0 # 1 0;", "cloud c 0 0 # 0;", "cloud c 0 0 1 #;", "child k # 0 0;", "child k 0 # 0;",
            "child k 0 0 #;", "wind #;", "rain #;", "most #;"};
        int[] least = {0, 0, 0, 0, 0, 0, 0, 0, 0, 1, 0, 0, 0, 0, 0, 1, 1};
        int[] most = {5, 3, 5, 3, 5, 3, 99, 5, 3, 9, 99, 5, 3, 9, 4, 20, 9};
        for (int i = 0; i < lines.length; i++) {
            bounds(lines[i], least[i], most[i]);
            boundsOfLarge(lines[i], most[i]);
        }
        Check.about("seed: 0 .. 99999");
        Check.fine("seed 0;", 1);
        Check.fine("seed 99999;", 1);
        Check.faulty("seed 100000;", 2, 5);
        boundsOfLarge("seed #;", 99999);
        Check.about("N of E 0 .. 9999");
        Check.fine("law grow 0;", 1);
        Check.fine("law grow 9999;", 1);
        Check.fine("law grow 00009999;", 1);
        Check.faulty("law grow 10000;", 2, 9);
        Check.faulty("law grow 1+(2*10000);", 2, 14);
        boundsOfLarge("law mark 1 + #;", 9999);
    }

    /** The last that is allowed is what is told then. */
    private static void numbersAreTold() {
        Check.about("what is told at the bounds");
        CloudSchool s = Check.of("field f 5 3 99;field g 0 0 0;cloud c 5 3 9 99;cloud d 0 0 1 0;child k 5 3 9;child l 0 0 0;"
            + "water 5 3;hill 0 0;water 5 0;hill 0 3;law grow 9999;");
        int[][] fields = {{5, 3, 99, 0}, {0, 0, 0, 0}};
        int[][] clouds = {{5, 3, 9, 0, -1, 0}, {0, 0, 1, 0, -1, 0}};
        int[][] children = {{5, 3, 9, 0, 0, 0}, {0, 0, 0, 0, 0, 0}};
        for (int i = 0; i < 2; i++) {
            for (int what = 0; what < 4; what++) {
                Check.due("field(" + i + ", " + what + ")", s.field(i, what), fields[i][what]);
            }
            Check.cloudIs("told", s, i, clouds[i]);
            for (int what = 0; what < 6; what++) {
                Check.due("child(" + i + ", " + what + ")", s.child(i, what), children[i][what]);
            }
        }
        for (int cell = 0; cell < 24; cell++) {
            int due = cell == 23 || cell == 5 ? 1 : cell == 0 || cell == 18 ? 2 : 0;
            Check.due("ground of cell " + cell, s.ground(cell % 6, cell / 6), due);
        }
        s.go(1);
        Check.due("9999 in E", s.law(0, 1), 9999);
    }

    /** So many lines of a kind, each with a name of its own. */
    private static String many(String kind, String numbers, int n) {
        StringBuilder text = new StringBuilder();
        for (int i = 0; i < n; i++) {
            text.append(kind).append((char) ('a' + i)).append(numbers);
        }
        return text.toString();
    }

    private static void fieldsAtMost() {
        Check.about("FIELDS, at most 5");
        String five = many("field ", " 1 1 9;", 5);
        Check.fine(five, 5);
        CloudSchool s = Check.of(five);
        Check.due("count(0)", s.count(0), 5);
        Check.due("the fifth", s.named(0, Check.letters("e")), 4);
        Check.due("several in one cell", s.field(4, 0) * 10 + s.field(0, 1), 11);
        Check.faulty(five + "field f 1 1 9;", 2, 70);
        Check.faulty(five + "field", 2, 70);
        Check.faulty(five + "field a 9 9 999;", 2, 70);
        Check.faulty(five + " \n field", 2, 73);
        Check.fine(five + "child f 1 1 9;", 6);
    }

    private static void cloudsAtMost() {
        Check.about("CLOUDS, at most 8");
        String eight = many("cloud ", " 1 1 9 0;", 8);
        Check.fine(eight, 8);
        CloudSchool s = Check.of(eight);
        Check.due("count(1)", s.count(1), 8);
        Check.due("the eighth", s.named(1, Check.letters("h")), 7);
        Check.faulty(eight + "cloud i 1 1 9 0;", 2, 128);
        Check.faulty(eight + "cloud ;", 2, 128);
        Check.fine(eight + "field i 1 1 9;", 9);
    }

    private static void childrenAtMost() {
        Check.about("CHILDREN, at most 6");
        String six = many("child ", " 1 1 9;", 6);
        Check.fine(six, 6);
        CloudSchool s = Check.of(six);
        Check.due("count(2)", s.count(2), 6);
        Check.due("the sixth", s.named(2, Check.letters("f")), 5);
        Check.faulty(six + "child g 1 1 9;", 2, 84);
        Check.faulty(six + "child $", 2, 84);
        Check.fine(six + "cloud g 1 1 9 0;", 7);
    }

    private static void windsAtMost() {
        Check.about("WINDS, at most 12");
        String twelve = "wind 0;".repeat(11) + "wind 4;";
        Check.fine(twelve, 12);
        CloudSchool s = Check.of(twelve);
        Check.due("count(3)", s.count(3), 12);
        Check.faulty(twelve + "wind 0;", 2, 84);
        Check.faulty(twelve + "wind 9;", 2, 84);
        Check.fine(twelve + "rain 1;", 13);
    }

    private static void windsAgainFromTheFirst() {
        Check.about("WINDS: of HOUR 0 on, and again from the first one on");
        CloudSchool s = Check.of("wind 0;".repeat(10) + "wind 3;wind 4;");
        int[] late = {3, 4, 0};
        s.go(10);
        for (int i = 0; i < 3; i++) {
            Check.due("wind of hour " + (10 + i), s.count(6), late[i]);
            s.go(1);
        }
        s = Check.of("wind 1;" + "wind 0;".repeat(11));
        Check.due("of hour 0", s.count(6), 1);
        s.go(11);
        Check.due("of hour 11", s.count(6), 0);
        s.go(1);
        Check.due("of hour 12: the first one again", s.count(6), 1);
        s.go(12);
        Check.due("of hour 24", s.count(6), 1);
        s = Check.of("wind 2;");
        s.go(99);
        Check.due("one wind is that of all hours", s.count(6), 2);
        s = Check.of("wind 2;wind 3;");
        for (int i = 0; i < 10; i++) {
            s.go(99);
        }
        s.go(9);
        Check.due("of hour 999", s.count(6), 3);
        s = Check.of("rain 1;");
        Check.due("none without", s.count(6), 0);
        Check.due("none told", s.count(3), 0);
        s.go(5);
        Check.due("none without, later", s.count(6), 0);
    }

    private static void defaultsWithoutLines() {
        Check.about("rain (6), most (9)");
        CloudSchool s = Check.of("cloud a 0 0 5 0;cloud b 1 0 6 0;field f 0 0 9;field g 1 0 9;");
        s.go(1);
        Check.due("5 doesn't rain", s.field(0, 3), 0);
        Check.due("6 does", s.field(1, 3), 3);
        String clouds = "";
        for (int i = 0; i < 8; i++) {
            clouds += "cloud " + (char) ('a' + i) + " " + i % 6 + " " + i / 6 + " 1 0;";
        }
        s = Check.of(clouds + "child k 0 0 9;");
        s.go(1);
        Check.due("one child may have all eight", s.child(0, 4), 8);
        s = Check.of(clouds + "child k 0 0 9;most 8;");
        s.go(1);
        Check.due("most 8: all eight", s.child(0, 4), 8);
        s = Check.of(clouds + "child k 0 0 9;most 7;");
        s.go(1);
        Check.due("most 7: all but one", s.child(0, 4), 7);
        s = Check.of("cloud a 0 0 9 0;law grow 9;rain 20;field f 0 0 9;");
        s.go(1);
        Check.due("rain 20: 18 doesn't rain", s.field(0, 3), 0);
        s.go(1);
        Check.due("rain 20: 20 does", s.field(0, 3), 10);
    }

    private static void groundToldOnce() {
        Check.about("GROUND: each CELL told once of both");
        for (String one : new String[] {"water", "hill"}) {
            for (String other : new String[] {"water", "hill"}) {
                String text = one + " 2 1;" + other + " ";
                Check.faulty(text + "2 1;", 3, text.length() + 2);
                Check.faulty(text + "2\n\n1;", 3, text.length() + 3);
                Check.faulty(text + "2 1", 3, text.length() + 2);
                Check.faulty(text + "2 1 1;", 3, text.length() + 2);
                Check.fine(text + "1 2;", 2);
                Check.fine(text + "2 2;", 2);
                Check.fine(text + "3 1;", 2);
                Check.faulty(text + "2 4;", 2, text.length() + 2);
            }
        }
        StringBuilder all = new StringBuilder();
        for (int cell = 0; cell < 24; cell++) {
            all.append(cell % 2 == 0 ? "water " : "hill ").append(cell % 6).append(' ').append(cell / 6).append(';');
        }
        Check.fine(all.toString(), 24);
        Check.faulty(all + "water 5 3;", 3, all.length() + 8);
        Check.faulty(all + "water 0 0;", 3, all.length() + 8);
    }

    private static void namesToldOnce() {
        Check.about("FAULT 3: a name of its kind (at W)");
        Check.faulty("field ab 0 0 0;field ab", 3, 21);
        Check.faulty("cloud ab 0 0 1 0;cloud ab 1 1 1 1;", 3, 23);
        Check.faulty("child ab 0 0 0;child\nab 9 9 9;", 3, 21);
        Check.faulty("field a 0 0 0;field b 0 0 0;field c 0 0 0;field a 0 0 0;", 3, 48);
        Check.faulty(many("cloud ", " 0 0 1 0;", 7) + "cloud g 1 1 1 1;", 3, 118);
        Check.fine("field ab 0 0 0;cloud ab 0 0 1 0;child ab 0 0 0;", 3);
        Check.fine("field ab 0 0 0;field a 0 0 0;field abc 0 0 0;field ba 0 0 0;", 4);
        Check.fine("field abcdef 0 0 0;field abcdeg 0 0 0;field bbcdef 0 0 0;", 3);
    }

    private static void linesToldOnce() {
        Check.about("FAULT 3: rain, most, seed (at the word)");
        for (String word : new String[] {"rain", "most", "seed"}) {
            Check.faulty(word + " 1;" + word + " 1;", 3, 7);
            Check.faulty(word + " 1; " + word + " 999999;", 3, 8);
            Check.faulty(word + " 1;" + word, 3, 7);
        }
        Check.fine("rain 1;most 1;seed 1;", 3);
        Check.faulty("rain 1;most 1;seed 1;rain 1;", 3, 21);
        Check.faulty("rain 1;most 1;seed 1;most 1;", 3, 21);
        Check.faulty("rain 1;most 1;seed 1;seed 1;", 3, 21);
        Check.faulty("seed 0;seed 0;", 3, 7);
    }

    private static void lawsToldOnce() {
        Check.about("FAULT 3: a law of its RULE (at RULE)");
        for (String rule : new String[] {"grow", "fall", "mark"}) {
            Check.faulty("law " + rule + " 0;law " + rule + " 0;", 3, 15);
            Check.faulty("law " + rule + " 0;law " + rule, 3, 15);
            Check.faulty("law grow 1;law fall 1;law mark 1; law " + rule + " 1;", 3, 38);
        }
        Check.fine("law mark 1;law fall 1;law grow 1;", 3);
    }

    private static void signsOfTwo() {
        Check.about("E: = (or > behind <) right behind < or > belongs to it");
        Check.fine("law grow 1<=2;", 1);
        Check.fine("law grow 1>=2;", 1);
        Check.fine("law grow 1<>2;", 1);
        Check.faulty("law grow 1< =2;", 1, 12);
        Check.faulty("law grow 1> =2;", 1, 12);
        Check.faulty("law grow 1< >2;", 1, 12);
        Check.faulty("law grow 1<\n=2;", 1, 12);
        Check.faulty("law grow 1><2;", 1, 11);
        Check.faulty("law grow 1=<2;", 1, 11);
        Check.faulty("law grow 1=>2;", 1, 11);
        Check.faulty("law grow 1==2;", 1, 11);
        Check.faulty("law grow 1<<2;", 1, 11);
        Check.faulty("law grow 1>>2;", 1, 11);
        Check.faulty("law grow 1<==2;", 1, 12);
        Check.faulty("law grow 1>==2;", 1, 12);
        Check.faulty("law grow 1<>=2;", 1, 12);
        Check.faulty("law grow 1<>>2;", 1, 12);
        Check.due("each is one knot", Check.of("law grow 1<=2;law fall 1>=2;law mark 1<>2;").count(4), 9);
    }

    private static void comparedOnce() {
        Check.about("C: S [ ( < | <= | = | <> | >= | > ) S ]");
        for (String sign : new String[] {"<", "<=", "=", "<>", ">=", ">"}) {
            Check.fine("law grow 1 " + sign + " 2;", 1);
            Check.faulty("law grow 1 = 2 " + sign + " 3;", 1, 15);
            Check.faulty("law grow 1 " + sign, 1, 11 + sign.length());
            Check.faulty("law grow " + sign + " 1;", 1, 9);
            Check.fine("law grow (1 " + sign + " 2) " + sign + " (3 " + sign + " 4);", 1);
            Check.fine("law grow 1 " + sign + " 2 and 3 " + sign + " 4 or 5 " + sign + " 6;", 1);
        }
        Check.faulty("law grow 1+1 = 2*2 = 3;", 1, 19);
        Check.faulty("law grow (1 = 2 = 3);", 1, 16);
        Check.faulty("law grow not 1 = 2 = 3;", 1, 19);
    }

    private static void notAheadOfComparisons() {
        Check.about("B: not B | C");
        Check.fine("law grow not 1;", 1);
        Check.fine("law grow not not 1 and not 2 or not (not 3);", 1);
        for (String ahead : new String[] {"1 +", "1 -", "1 *", "1 /", "1 <", "1 =", "1 >="}) {
            Check.faulty("law grow " + ahead + " not 2;", 1, 10 + ahead.length());
            Check.fine("law grow " + ahead + " (not 2);", 1);
        }
        Check.faulty("law grow 1 not 2;", 1, 11);
        Check.faulty("law grow not;", 1, 12);
        Check.faulty("law grow not and 1;", 1, 13);
        Check.faulty("law grow and 1;", 1, 9);
        Check.faulty("law grow 1 and or 2;", 1, 15);
        Check.faulty("law grow 1 + * 2;", 1, 13);
        Check.faulty("law grow + 1;", 1, 9);
        Check.faulty("law grow 1 2;", 1, 11);
        Check.faulty("law grow size size;", 1, 14);
        Check.faulty("law grow;", 1, 8);
        Check.faulty("law grow ();", 1, 10);
        Check.faulty("law grow (1));", 1, 12);
        Check.faulty("law grow 1);", 1, 10);
        Check.faulty("law grow (1;", 1, 11);
        Check.faulty("law grow (1 + ) 2;", 1, 14);
        Check.faulty("law grow 2 (1);", 1, 11);
        Check.faulty("law grow (1) 2;", 1, 13);
        Check.faulty("law grow (1)(2);", 1, 12);
        Check.faulty("law grow (;);", 1, 10);
    }

    private static void nineOpen() {
        Check.about("FAULT 2: a ninth '(' open");
        Check.fine("law grow ((((((((1))))))));", 1);
        Check.faulty("law grow (((((((((1)))))))));", 2, 17);
        Check.faulty("law grow ((((((((", 1, 17);
        Check.faulty("law grow (((((((((", 2, 17);
        Check.faulty("law grow (((((((( \n(", 2, 19);
        Check.fine("law grow ((((((((1)))))))) + ((((((((2))))))));law fall ((((((((3))))))));", 2);
        Check.fine("law grow ((((((((1)+(2)*(3)-(4))))))));", 1);
        Check.faulty("law grow (((((((1+(2+(3))))))))));", 2, 21);
        Check.faulty("law grow ((((((((1))))))));law fall (((((((((1)))))))));", 2, 44);
        Check.faulty("law grow ((((((((1 (", 1, 19);
        Check.faulty("law grow (1)+(2)+(3)+(4)+(5)+(6)+(7)+(8)+(9)+(", 1, 46);
        Check.faulty("law grow ((((((((1)))))))));", 1, 26);
    }

    private static void knotsOfAll() {
        Check.about("FAULT 2: a 65th KNOT of all E");
        CloudSchool s = Check.of(FULL + ";");
        Check.due("64 knots", s.count(4), 64);
        for (String sign : new String[] {"+", "-", "*", "/", "<", "<=", "=", "<>", ">=", ">", " and", " or"}) {
            Check.faulty(FULL + sign + "1;", 2, FULL.length() + (sign.charAt(0) == ' ' ? 1 : 0));
        }
        String next = FULL + ";law fall ";
        for (String first : new String[] {"1", "size", "ground", "age", "far", "many", "marks", "hour", "not 1", "10000"}) {
            Check.faulty(next + first + ";", 2, next.length());
            Check.faulty(next + "(" + first + ");", 2, next.length() + 1);
        }
        Check.faulty(next + ";", 1, next.length());
        Check.faulty(next, 1, next.length());
        String lessOne = "law grow 0" + "+1".repeat(31) + ";law fall ";
        Check.fine(lessOne + "1;", 2);
        Check.fine(lessOne + "((((((((1))))))));", 2);
        Check.faulty(lessOne + "1;law mark 1;", 2, lessOne.length() + 11);
        Check.faulty(lessOne + "not 1;", 2, lessOne.length() + 4);
        Check.fine("law grow " + "not ".repeat(63) + "1;", 1);
        Check.faulty("law grow " + "not ".repeat(64) + "1;", 2, 9 + 4 * 64);
        Check.faulty("law grow " + "not ".repeat(65) + "1;", 2, 9 + 4 * 64);
        Check.fine("law grow ((((((((" + "not ".repeat(63) + "1))))))));", 1);
        String all = "law grow " + "not ".repeat(64) + "((((((((";
        Check.faulty(all + "(1", 2, all.length());
        Check.faulty(all + "not 1", 2, all.length());
        Check.faulty(all + "1", 2, all.length());
        Check.faulty(all + "+", 1, all.length());
        Check.faulty(all, 1, all.length());
        s = Check.of("law grow 1;");
        Check.due("a number is one", s.count(4), 1);
        Check.due("brackets are none", Check.of("law grow ((1)+(2));").count(4), 3);
        Check.due("not, and, or are one each", Check.of("law grow not 1 and 2 or 3;").count(4), 6);
        Check.due("of all laws", Check.of("law grow 1+1;law fall size;law mark 2*3;").count(4), 7);
        Check.due("a new text counts anew", Check.read(s, FULL + ";"), 1);
        Check.due("64 then", s.count(4), 64);
    }

    /** What an earlier text told, or a fault left half read, does not count in a later one. */
    private static void knotsOfEachText() {
        Check.about("FAULT 2: a 65th KNOT of all E of one TEXT");
        String sum = "law fall 0" + "+1".repeat(31) + ";law grow 7;cloud a 1 1 3 0;rain 20;";
        CloudSchool s = new CloudSchool();
        for (int i = 0; i < 4; i++) {
            Check.due("text " + i, Check.read(s, sum), 4);
            Check.due("64 knots", s.count(4), 64);
            s.go(1);
            Check.due("fall", s.law(1, 0), 31);
            Check.due("grow", s.law(0, 0), 7);
            Check.due("mark", s.law(2, 0), Long.MIN_VALUE);
        }
        String[] halves = {"law grow 1+2*(3-(4 and $", "law grow ((((((((1", "law grow not not 1 or", "law grow 1 < 2 <", sum + "$", "law grow (10000"};
        for (String half : halves) {
            for (int i = 0; i < 10; i++) {
                Check.due("'" + half + "' has a fault", Check.read(s, half), -1);
            }
            Check.due("64 stay", s.count(4), 64);
            Check.due("a text behind it", Check.read(s, sum), 4);
            s.go(1);
            Check.due("fall behind it", s.law(1, 0), 31);
            Check.due("grow behind it", s.law(0, 0), 7);
        }
    }

    /** A line cut behind each of its bytes. */
    private static void faultAtTheLength() {
        Check.about("FAULT 1: the length, if more must come");
        cutLine("cloud ab 1 2 3 14;", new int[] {0, 5});
        cutLine("field ab 1 2 13;", new int[] {0, 5});
        cutLine("child ab 1 2 3;", new int[] {0, 5});
        cutLine("water 1 2;", new int[] {0, 5});
        cutLine("hill 1 2;", new int[] {0, 4});
        cutLine("wind 1;", new int[] {0, 4});
        cutLine("rain 11;", new int[] {0, 4});
        cutLine("seed 11;", new int[] {0, 4});
        cutLine("most 1;", new int[] {0, 4});
        cutLine("law grow not (1 <= size) or 7;", new int[] {0, 3, 4, 8, 9, 12, 19, 23, 25, 27});
        Check.faulty("rain 3;most 3 \n ", 1, 16);
        Check.faulty("rain 3;most   ", 1, 14);
    }

    /** Pairs of where a word of the language begins and ends: a part of it is no such word, and can't stand there. */
    private static void cutLine(String line, int[] words) {
        Check.fine(line, 1);
        for (int n = 1; n < line.length(); n++) {
            int place = n;
            for (int i = 0; i < words.length; i += 2) {
                if (n > words[i] && n < words[i + 1]) {
                    place = words[i];
                }
            }
            Check.faulty(line.substring(0, n), 1, place);
            CloudSchool school = new CloudSchool();
            Check.feedAll(school, line);
            Check.due(n + " bytes of '" + line + "'", school.text(n), -1);
            Check.due("its fault", school.fault(0), 1);
            Check.due("its place", school.fault(1), place);
        }
    }

    private static void firstFaultAlongTheText() {
        Check.about("FAULTS, the first along the text");
        Check.faulty("rain 99;$", 2, 5);
        Check.faulty("rain 3;rain 99;$", 3, 7);
        Check.faulty("water 1 1;water 6 1;", 2, 16);
        Check.faulty("water 1 1;water 1 1 $", 3, 18);
        Check.faulty("water 1 1;water 1 $", 1, 18);
        Check.faulty("field f 0 0 0;field f 9 9 100;", 3, 20);
        Check.faulty("field f 9 9 100;", 2, 8);
        Check.faulty("cloud c 0 0 0 100;", 2, 12);
        Check.faulty("law grow 10000+$;", 2, 9);
        Check.faulty("law grow 1+$ 10000;", 1, 11);
        Check.faulty("law grow 1;law grow $;", 3, 15);
        Check.faulty("law grow 1;law $ grow;", 1, 15);
        Check.faulty("law grow (((((((((10000;", 2, 17);
        Check.faulty(FULL + ";law grow 1;", 3, FULL.length() + 5);
        Check.faulty(FULL + ";law fall ($", 1, FULL.length() + 11);
        Check.faulty("rain 3;abcdefg;most 99;", 1, 7);
    }

    private static void leastFaultOfOnePlace() {
        Check.about("FAULTS: of one place the least");
        for (String none : new String[] {" 5", " size", " not", " (", " $", " )", " rain", " abcdefg"}) {
            Check.faulty(FULL + none + ";", 1, FULL.length() + 1);
        }
        String compared = "law grow not 0<1" + "+1".repeat(30);
        Check.faulty(compared + "<2;", 1, compared.length());
        Check.faulty(compared + "+2;", 2, compared.length());
        String signLast = "law grow 0" + "+1".repeat(31) + "+";
        Check.faulty(signLast + "1;", 2, signLast.length());
        Check.faulty(signLast + "not 1;", 1, signLast.length());
        Check.faulty(signLast + "+1;", 1, signLast.length());
        Check.faulty(signLast + ";", 1, signLast.length());
        Check.faulty(signLast, 1, signLast.length());
        Check.faulty(signLast + "10000;", 2, signLast.length());
        Check.faulty("field f 0 0 0;field rain 0 0 0;", 1, 20);
        Check.faulty("law grow ((((((((1) (", 1, 20);
    }
}
