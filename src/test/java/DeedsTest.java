/** Promises 13 to 16 and 37 to 39: pushes, giving, children sent, the wind by call, undone, images. */
public final class DeedsTest {
    public static void main(String[] args) {
        pushing();
        giving();
        standing();
        blowing();
        undoing();
        undoingTwenty();
        undoingTwentyKinds();
        undoneByHours();
        images();
        Check.end("DeedsTest");
    }

    private static void pushing() {
        CloudSchool s = Check.of("cloud a 5 3 3 0;cloud b 2 2 3 0;cloud c 3 2 3 0;child k 2 1 2;child l 5 3 0;");
        s.go(1);
        Check.due("k: its first one", s.push(0, 2), 1);
        Check.cloudIs("south", s, 1, 2, 3, 3, 1, 0, 1);
        Check.due("way 1", s.push(0, 1), 1);
        Check.due("east", s.cloud(1, 0), 3);
        Check.due("way 3", s.push(0, 3), 1);
        Check.due("west", s.cloud(1, 0), 2);
        Check.due("way 4", s.push(0, 4), 1);
        Check.due("north", s.cloud(1, 1), 2);
        Check.due("way 0", s.push(0, 0), -1);
        Check.due("way 5", s.push(0, 5), -1);
        Check.due("way -1", s.push(0, -1), -1);
        Check.due("no such child", s.push(2, 1), -1);
        Check.due("nor -1", s.push(-1, 1), -1);
        Check.due("beyond the edge", s.push(1, 1), 0);
        Check.cloudIs("lost where it was last", s, 0, 5, 3, 3, 1, 1, 2);
        Check.due("l has none now", s.push(1, 1), -2);
        s.stand(0, 5, 1);
        Check.due("k sees c alone", s.push(0, 4), 2);
        s.stand(0, 0, 0);
        Check.due("k sees b again", s.push(0, 4), 1);
        s.stand(0, 5, 3);
        s.give(2, 1);
        Check.due("what it sees is not its own", s.push(0, 1), -2);
        Check.due("joins wait for the hour", s.count(7), 2);
    }

    private static void giving() {
        CloudSchool s = Check.of("cloud a 5 3 3 0;cloud b 2 2 3 0;cloud c 2 2 3 9;child k 2 2 0;child l 0 0 0;most 1;");
        Check.due("to come", s.give(0, 0), false);
        s.go(1);
        Check.due("it is so: nobody's", s.give(0, -1), false);
        Check.due("most and sight don't matter", s.give(0, 0), true);
        Check.due("its child", s.cloud(0, 4), 0);
        Check.due("has two", s.child(0, 4), 2);
        Check.due("it is so", s.give(0, 0), false);
        Check.due("to nobody", s.give(1, -1), true);
        Check.due("nobody's", s.cloud(1, 4), -1);
        Check.due("no such child", s.give(1, 2), false);
        Check.due("nor -2", s.give(1, -2), false);
        Check.due("no such cloud", s.give(3, 0), false);
        Check.due("nor -1", s.give(-1, 0), false);
        Check.due("three were none", s.count(14), 2);
        s.give(1, 1);
        for (int x = 2; x <= 5; x++) {
            s.stand(1, x, 2);
            Check.due("l goes with b", s.push(1, 1), 1);
        }
        Check.due("b is lost", s.cloud(1, 5), 2);
        Check.due("a lost one isn't given", s.give(1, 0), false);
    }

    private static void standing() {
        CloudSchool s = Check.of("child k 2 2 0;");
        Check.due("it is there", s.stand(0, 2, 2), false);
        Check.due("goes", s.stand(0, 5, 3), true);
        Check.due("x", s.child(0, 0), 5);
        Check.due("y", s.child(0, 1), 3);
        Check.due("x alone", s.stand(0, 0, 3), true);
        Check.due("y alone", s.stand(0, 0, 0), true);
        Check.due("x 6", s.stand(0, 6, 0), false);
        Check.due("x -1", s.stand(0, -1, 0), false);
        Check.due("y 4", s.stand(0, 0, 4), false);
        Check.due("y -1", s.stand(0, 0, -1), false);
        Check.due("no such child", s.stand(1, 0, 0), false);
        Check.due("nor -1", s.stand(-1, 0, 0), false);
        Check.due("three to undo", s.count(14), 3);
    }

    private static void blowing() {
        CloudSchool s = Check.of("cloud a 2 2 3 0;wind 1;wind 2;");
        Check.due("as told: it is so", s.blow(-1), false);
        Check.due("5", s.blow(5), false);
        Check.due("-2", s.blow(-2), false);
        Check.due("3", s.blow(3), true);
        Check.due("it is so", s.blow(3), false);
        Check.due("the wind", s.count(6), 3);
        s.go(2);
        Check.due("in all hours", s.cloud(0, 0), 0);
        Check.due("still", s.count(6), 3);
        Check.due("none", s.blow(0), true);
        Check.due("the wind is none", s.count(6), 0);
        s.go(1);
        Check.due("x stays", s.cloud(0, 0), 0);
        Check.due("as told", s.blow(-1), true);
        Check.due("that of hour 3", s.count(6), 2);
        Check.due("4", s.blow(4), true);
    }

    private static void undoing() {
        CloudSchool s = Check.of("cloud a 5 3 3 0;child k 5 2 1;child l 1 1 1;wind 0;");
        s.go(1);
        s.push(0, 1);
        s.stand(0, 0, 1);
        s.blow(4);
        Check.due("a lost cloud isn't given", s.give(0, 1), false);
        Check.due("three", s.count(14), 3);
        Check.due("the wind is undone", s.undo(), 2);
        Check.due("wind", s.count(6), 0);
        Check.due("and is as told", s.blow(-1), false);
        Check.due("the child is back", s.undo(), 1);
        Check.due("x", s.child(0, 0), 5);
        Check.due("y", s.child(0, 1), 2);
        Check.due("the push is undone", s.undo(), 0);
        Check.cloudIs("in the sky again", s, 0, 5, 3, 3, 1, 0, 1);
        Check.due("none", s.undo(), -1);
        s.give(0, 1);
        s.give(0, -1);
        s.push(0, 1);
        Check.due("-2 and NONE leave nothing", s.count(14), 2);
        s.undo();
        Check.due("given before", s.cloud(0, 4), 1);
        s.undo();
        Check.due("given at first", s.cloud(0, 4), 0);
        s.push(0, 3);
        s.push(0, 4);
        s.undo();
        Check.due("x of the first push", s.cloud(0, 0), 4);
        Check.due("y of it", s.cloud(0, 1), 3);
    }

    private static void undoingTwenty() {
        CloudSchool s = Check.of("child k 0 0 0;");
        for (int i = 1; i <= 25; i++) {
            s.stand(0, i % 6, i / 6 % 4);
            Check.due("to undo behind " + i, s.count(14), Math.min(20, i));
        }
        for (int i = 19; i >= 0; i--) {
            Check.due("left", s.undo(), i);
        }
        Check.due("no more", s.undo(), -1);
        Check.due("where it was behind five", s.child(0, 0), 5);
    }

    private static void undoingTwentyKinds() {
        CloudSchool s = Check.of("cloud a 3 1 3 0;cloud b 1 3 3 0;child k 3 1 9;child l 2 2 0;wind 3;");
        s.go(1);
        int[] x = new int[26];
        int[] y = new int[26];
        int[] owner = new int[26];
        int[] wind = new int[26];
        int[] childX = new int[26];
        for (int i = 0; i < 25; i++) {
            x[i] = s.cloud(0, 0);
            y[i] = s.cloud(0, 1);
            owner[i] = s.cloud(1, 4);
            wind[i] = s.count(6);
            childX[i] = s.child(1, 0);
            switch (i % 4) {
                case 0:
                    s.push(0, 1 + i / 4 % 4);
                    break;
                case 1:
                    s.give(1, s.cloud(1, 4) == 1 ? -1 : 1);
                    break;
                case 2:
                    s.stand(1, i % 6, i / 6 % 4);
                    break;
                default:
                    s.blow(i / 4 % 4);
                    break;
            }
            Check.due("done " + i, s.count(14), Math.min(20, i + 1));
        }
        for (int i = 24; i >= 5; i--) {
            s.undo();
            Check.due("x of a before " + i, s.cloud(0, 0), x[i]);
            Check.due("y of a before " + i, s.cloud(0, 1), y[i]);
            Check.due("b's child before " + i, s.cloud(1, 4), owner[i]);
            Check.due("wind before " + i, s.count(6), wind[i]);
            Check.due("l before " + i, s.child(1, 0), childX[i]);
        }
        Check.due("no more of all kinds", s.undo(), -1);
    }

    private static void undoneByHours() {
        CloudSchool s = Check.of("child k 0 0 0;field f 0 0 1;");
        s.stand(0, 1, 1);
        Check.due("no hour", s.go(0), 0);
        Check.due("it stays", s.count(14), 1);
        Check.due("no such number", s.go(100), -1);
        s.ahead(5, 0);
        s.enough(0);
        s.likely(0, 2, 0);
        s.plan(0, 0, 2);
        s.keep();
        Check.due("hours ahead don't go by", s.count(14), 1);
        Check.due("one hour", s.go(1), 1);
        Check.due("none to undo", s.undo(), -1);
        Check.due("it stands there", s.child(0, 0), 1);
    }

    private static void images() {
        CloudSchool s = Check.of("water 2 2;cloud a 2 2 5 0;cloud b 5 1 2 2;cloud c 2 2 1 3;child k 2 2 1;field f 2 2 9;wind 0;");
        Check.due("no image", s.back(), -1);
        s.go(1);
        s.blow(2);
        s.stand(0, 3, 2);
        Check.due("keep", s.keep(), 1);
        Check.due("keep leaves what can be undone", s.count(14), 2);
        s.note(1, 1, 1, true);
        s.blow(0);
        s.stand(0, 1, 3);
        s.give(0, -1);
        s.go(4);
        s.stand(0, 0, 0);
        Check.due("got", s.field(0, 3) > 0, true);
        Check.due("back", s.back(), 1);
        Check.due("nothing to undo", s.undo(), -1);
        Check.due("the hour", s.count(5), 1);
        Check.due("the wind by call", s.count(6), 2);
        Check.due("the child", s.child(0, 0), 3);
        Check.due("its marks", s.child(0, 3), 1);
        Check.due("got then", s.field(0, 3), 3);
        Check.due("whose then", s.whose(0), -2);
        Check.cloudIs("the cloud", s, 0, 2, 2, 3, 1, 0, 1);
        Check.cloudIs("to come again", s, 1, 5, 1, 2, 0, -1, 0);
        Check.cloudIs("not joined any more", s, 2, 2, 2, 1, 0, -1, 0);
        Check.due("notes stay", s.count(12), 1);
        s.go(1);
        Check.due("back once more", s.back(), 1);
        s.go(2);
        Check.due("in place of the one ahead", s.keep(), 3);
        s.go(5);
        Check.due("the later one", s.back(), 3);
    }
}
