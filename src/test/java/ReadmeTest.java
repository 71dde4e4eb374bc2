/** What README.md shows, call by call. */
public final class ReadmeTest {
    public static void main(String[] args) {
        CloudSchool school = new CloudSchool();
        feedingAndReading(school);
        asking(school);
        exceptionsOfCloud(school);
        Check.end("ReadmeTest");
    }

    static int read(CloudSchool school, String text) {
        int[] row = new int[5];
        for (int i = 0; i < (text.length() + 19) / 20 * 20; i++) {
            row[i % 20 / 4] = row[i % 20 / 4] << 8 | (i < text.length() ? text.charAt(i) : ' ');
            if (i % 20 == 19) {
                school.feed(row[0], row[1], row[2], row[3], row[4]);
            }
        }
        return school.text(text.length());
    }

    private static void feedingAndReading(CloudSchool school) {
        Check.about("README, feeding and reading");
        Check.due("a number is missing", read(school, "cloud puff 0 0 4;"), -1);
        Check.due("fault(0)", school.fault(0), 1);
        Check.due("fault(1)", school.fault(1), 16);
        Check.due("lines", read(school, "water 1 0;hill 4 0;field top 4 0 9;cloud puff 0 0 4 0;child al 1 1 2;wind 1;"), 6);
    }

    private static void asking(CloudSchool school) {
        Check.about("README, asking");
        Check.due("ahead(4, 0)", school.ahead(4, 0), 2);
        Check.due("go(4)", school.go(4), 4);
        Check.due("field(0, 3)", school.field(0, 3), 2);
        Check.due("whose(0)", school.whose(0), 0);
        Check.due("lacks()", school.lacks(), 1);
        Check.due("blow(3)", school.blow(3), true);
        Check.due("undo()", school.undo(), 0);
    }

    private static void exceptionsOfCloud(CloudSchool school) {
        Check.about("README, the two exceptions of cloud");
        Check.due("cloud(0, 2)", school.cloud(0, 2), 3);
        Check.due("cloud(1, 2)", Check.cloudThrows(school, 1, 2), 1);
        Check.due("cloud(1, 6)", Check.cloudThrows(school, 1, 6), 1);
        Check.due("cloud(0, 6)", Check.cloudThrows(school, 0, 6), 2);
    }
}
