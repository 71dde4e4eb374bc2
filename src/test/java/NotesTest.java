/** Promises 31 to 34: notes, notes struck, by how many it is known, sizes. */
public final class NotesTest {
    public static void main(String[] args) {
        noting();
        striking();
        knowing();
        knowingInOtherOrder();
        sizesByRain();
        sizesByJoins();
        fromTheTextOn();
        Check.end("NotesTest");
    }

    private static void noting() {
        CloudSchool s = Check.of("cloud a 1 1 3 0;");
        Check.due("hours 0", s.note(0, 1, 1, true), -1);
        Check.due("hours 41", s.note(41, 1, 1, true), -1);
        Check.due("x 6", s.note(1, 6, 1, true), -1);
        Check.due("x -1", s.note(1, -1, 1, true), -1);
        Check.due("y 4", s.note(1, 1, 4, true), -1);
        Check.due("y -1", s.note(1, 1, -1, true), -1);
        Check.due("none yet", s.count(12), 0);
        Check.due("no note to strike", s.out(0), -1);
        Check.due("first", s.note(1, 1, 1, true), 0);
        Check.due("second", s.note(40, 5, 3, false), 1);
        Check.due("a note that strikes", s.out(1), 2);
        Check.due("one that strikes that one", s.out(2), 3);
        Check.due("no such note", s.out(4), -1);
        Check.due("nor -1", s.out(-1), -1);
        for (int i = 4; i < 24; i++) {
            Check.due("note " + i, i % 2 == 0 ? s.note(1, 1, 1, true) : s.out(i - 1), i);
        }
        Check.due("24 notes", s.count(12), 24);
        Check.due("sizes by 24", s.sizes(0), 1022);
        Check.due("no 25th", s.note(1, 1, 1, true), -1);
        Check.due("no 25th that strikes", s.out(0), -1);
    }

    private static void striking() {
        CloudSchool s = Check.of("cloud a 1 1 3 0;");
        s.note(1, 0, 0, true);
        Check.due("it was not so", s.sizes(0), 0);
        s.out(0);
        Check.due("struck", s.sizes(0), 1022);
        s.out(1);
        Check.due("what strikes is struck", s.sizes(0), 0);
        s.out(2);
        Check.due("and so on", s.sizes(0), 1022);
        s.out(1);
        Check.due("struck twice", s.sizes(0), 0);
        s.out(4);
        Check.due("one of both is struck", s.sizes(0), 1022);
    }

    private static void knowing() {
        CloudSchool s = Check.of("cloud a 1 1 3 0;");
        Check.due("by 0 of 0", s.known(0), true);
        Check.due("by 1 of 0", s.known(1), false);
        s.note(1, 0, 0, true);
        Check.due("by 0: no later one counts", s.sizes(0), 1022);
        Check.due("by how many", s.count(13), 0);
        Check.due("by 1", s.known(1), true);
        Check.due("it counts", s.sizes(0), 0);
        s.out(0);
        Check.due("what strikes is not known", s.sizes(0), 0);
        Check.due("by 2", s.known(2), true);
        Check.due("it is known", s.sizes(0), 1022);
        s.out(1);
        Check.due("still by 2", s.sizes(0), 1022);
        Check.due("by all", s.known(-1), true);
        Check.due("three", s.count(13), 3);
        Check.due("it isn't struck by all", s.sizes(0), 0);
        s.out(0);
        Check.due("by all, also those to come", s.sizes(0), 1022);
        Check.due("by how many then", s.count(13), 4);
        Check.due("by 5", s.known(5), false);
        Check.due("by -2", s.known(-2), false);
        Check.due("nothing changed", s.count(13), 4);
        Check.due("by 4", s.known(4), true);
        Check.due("by 4 again", s.known(4), true);
    }

    /** A note that isn't known doesn't count, whichever hours the known ones tell of. */
    private static void knowingInOtherOrder() {
        CloudSchool s = Check.of("cloud a 1 1 3 0;wind 1;");
        s.note(3, 4, 1, true);
        s.note(1, 0, 0, true);
        Check.due("both", s.sizes(0), 0);
        s.known(1);
        Check.due("the first one", s.sizes(0), 1022);
        s.known(0);
        Check.due("none", s.sizes(0), 1022);
        s.known(2);
        Check.due("both again", s.sizes(0), 0);
    }

    private static void sizesByRain() {
        CloudSchool s = Check.of("cloud a 1 1 3 0;cloud b 5 3 9 0;rain 4;law fall size;wind 0;wind 2;");
        Check.due("all", s.sizes(0), 1022);
        s.note(1, 1, 1, true);
        Check.due("below rain it is there", s.sizes(0), 2 + 4 + 8);
        Check.due("b is over at once", s.sizes(1), 1022);
        s.note(2, 1, 2, true);
        Check.due("and goes south", s.sizes(0), 2 + 4 + 8);
        s.note(2, 1, 2, false);
        Check.due("both can't be", s.sizes(0), 0);
        s.out(1);
        Check.due("neither without the first", s.sizes(0), 0);
        s.out(0);
        Check.due("it was over by then", s.sizes(0), 1022 - 2 - 4 - 8);
        Check.due("no such cloud", s.sizes(2), -1);
        Check.due("nor -1", s.sizes(-1), -1);
        s.out(2);
        s.note(40, 5, 3, true);
        Check.due("b is never there", s.sizes(0), 0);
        Check.due("unless it is less", s.sizes(1), 0);
        s = Check.of("water 1 1;cloud a 1 1 1 0;rain 20;law fall size;");
        s.note(18, 1, 1, true);
        Check.due("grows to 19 at most in 18 hours", s.sizes(0), 2);
        s.note(19, 1, 1, false);
        Check.due("and is over then", s.sizes(0), 2);
        s.note(40, 1, 1, true);
        Check.due("not there again", s.sizes(0), 0);
    }

    private static void sizesByJoins() {
        CloudSchool s = Check.of("cloud a 1 1 3 0;cloud b 2 1 5 1;child k 1 1 9;wind 0;wind 1;wind 1;rain 20;law fall 0;");
        s.note(1, 1, 1, true);
        s.note(2, 2, 1, true);
        s.note(2, 3, 1, true);
        Check.due("any cloud", s.sizes(0), 1022);
        s = Check.of("cloud a 1 1 3 0;cloud b 1 1 5 0;rain 10;law fall size;");
        s.note(1, 1, 1, true);
        Check.due("together below 10", s.sizes(0), 2 + 4 + 8 + 16);
        Check.due("b likewise", s.sizes(1), 1022 - 128 - 256 - 512);
    }

    private static void fromTheTextOn() {
        CloudSchool s = Check.of("cloud a 1 1 3 0;child k 1 1 9;wind 1;");
        s.go(1);
        s.blow(3);
        s.push(0, 2);
        s.go(1);
        s.note(2, 3, 1, true);
        Check.due("as it goes from the text on", s.sizes(0), 1022);
        s.note(4, 5, 1, true);
        s.note(5, 5, 1, false);
        Check.due("lost behind five", s.sizes(0), 1022);
        Check.due("now is as it was", s.cloud(0, 0), 1);
        Check.due("and its size", s.cloud(0, 2), 3);
    }
}
