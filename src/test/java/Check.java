import java.nio.charset.StandardCharsets;
import java.util.NoSuchElementException;

/** What the project's tests share: how a text is fed, and how an answer is looked at. */
final class Check {
    private static int wrong = 0;
    private static String about = "";

    private Check() {
    }

    /** The promise or the term whose sentence is tested from here on; it is told with each wrong answer. */
    static void about(String promiseOrTerm) {
        about = promiseOrTerm + ": ";
    }

    static void due(String what, long got, long want) {
        if (got != want) {
            wrong++;
            System.out.println(about + what + " answered " + got + ", due is " + want);
        }
    }

    /** Texts that must be alike, such as two looks at schools. */
    static void alike(String what, String got, String want) {
        if (!got.equals(want)) {
            wrong++;
            System.out.println(about + what + " is\n  " + got + "\ndue is\n  " + want);
        }
    }

    static void due(String what, boolean got, boolean want) {
        due(what, got ? 1 : 0, want ? 1 : 0);
    }

    /** Ends the test, with exit code 1 if an answer was wrong. */
    static void end(String name) {
        System.out.println(name + (wrong == 0 ? ": all answers are as due" : ": " + wrong + " answers are not as due"));
        if (wrong != 0) {
            System.exit(1);
        }
    }

    /** Feeds a text's bytes, blanks behind, and answers how many the text has. */
    static int feedAll(CloudSchool school, String text) {
        byte[] bytes = text.getBytes(StandardCharsets.ISO_8859_1);
        int[] row = new int[5];
        for (int from = 0; from < bytes.length; from += 20) {
            for (int i = 0; i < 20; i++) {
                int next = from + i < bytes.length ? bytes[from + i] & 255 : ' ';
                row[i / 4] = row[i / 4] << 8 | next;
            }
            school.feed(row[0], row[1], row[2], row[3], row[4]);
        }
        return bytes.length;
    }

    static int read(CloudSchool school, String text) {
        return school.text(feedAll(school, text));
    }

    /** A new school of a text that must be without a fault. */
    static CloudSchool of(String text) {
        CloudSchool school = new CloudSchool();
        if (read(school, text) < 0) {
            due("the text '" + text + "' has a fault at " + school.fault(1) + ":", school.fault(0), 0);
        }
        return school;
    }

    /** That a text has a fault of that kind at that place. */
    static void faulty(String text, int kind, int place) {
        CloudSchool school = new CloudSchool();
        due("text '" + text + "'", read(school, text), -1);
        due("fault(0) of '" + text + "'", school.fault(0), kind);
        due("fault(1) of '" + text + "'", school.fault(1), place);
    }

    /** That a text has no fault and so many lines. */
    static void fine(String text, int lines) {
        CloudSchool school = new CloudSchool();
        due("text '" + text + "'", read(school, text), lines);
        due("fault(0) of '" + text + "'", school.fault(0), 0);
        due("fault(1) of '" + text + "'", school.fault(1), -1);
    }

    /** A name's letters as named() wants them. */
    static int letters(String name) {
        int packed = 0;
        for (int i = 0; i < 6; i++) {
            packed = packed << 5 | (i < name.length() ? name.charAt(i) - 'a' + 1 : 0);
        }
        return packed;
    }

    /** 0: answers, 1: IndexOutOfBoundsException, 2: NoSuchElementException. */
    static int cloudThrows(CloudSchool school, int cloud, int what) {
        try {
            school.cloud(cloud, what);
            return 0;
        } catch (IndexOutOfBoundsException e) {
            return 1;
        } catch (NoSuchElementException e) {
            return 2;
        }
    }

    /** All six answers of cloud() as one text's worth of checks. */
    static void cloudIs(String when, CloudSchool school, int cloud, int... want) {
        for (int what = 0; what < want.length; what++) {
            due(when + ": cloud(" + cloud + ", " + what + ")", school.cloud(cloud, what), want[what]);
        }
    }
}
