/** Promises 26 to 40, each at the edges that its sentences name. */
public final class Promises26To40Test {
    private static final int MIN = Integer.MIN_VALUE;
    private static final int MAX = Integer.MAX_VALUE;
    private static final int[] NO_CHILDREN = {-1, -2, 3, 4, 6, MIN, MAX};
    private static final int[] NO_FIELDS = {-1, -2, 2, 3, 5, MIN, MAX};

    public static void main(String[] args) {
        promise26Likely();
        promise27Plan();
        promise28Step();
        promise29Rests();
        promise30Rest();
        promise31Note();
        promise31NoteFull();
        promise32Out();
        promise32OutFull();
        promise33Known();
        promise34Sizes();
        promise35Chance();
        promise36Tried();
        promise37Undo();
        promise37UndoOfEachKind();
        promise38Keep();
        promise39Back();
        promise39BackWithout();
        promise40Count();
        Check.end("Promises26To40Test");
    }

    private static void promise26Likely() {
        Check.about("promise 26");
        CloudSchool s = Look.rich();
        Check.due("n 1: none", s.likely(1, 1, 0), 0);
        Check.due("n 1: below", s.likely(1, 1, 1), 1);
        Check.due("n 2: b twice south, a south and twice east is too far", s.likely(1, 2, 0), 1);
        Check.due("n 2: below", s.likely(1, 2, 1), 25);
        for (int n : new int[] {0, -1, 6, 7, MIN, MAX}) {
            Check.due("likely(0, " + n + ", 0)", s.likely(0, n, 0), -1);
            Check.due("likely(0, " + n + ", 1)", s.likely(0, n, 1), -1);
        }
        for (int what : new int[] {-1, 2, MIN, MAX}) {
            Check.due("likely(0, 1, " + what + ")", s.likely(0, 1, what), -1);
        }
        for (int field : NO_FIELDS) {
            Check.due("likely(" + field + ", 1, 0)", s.likely(field, 1, 0), -1);
            Check.due("likely(" + field + ", 1, 1)", s.likely(field, 1, 1), -1);
        }
        Check.due("n 5 is fine", s.likely(0, 5, 1), 1);
        Look.leaves("likely", x -> x.likely(1, 5, 0));
        Look.leaves("likely refused", x -> x.likely(2, 1, 0));
    }

    private static void promise27Plan() {
        Check.about("promise 27");
        CloudSchool s = Look.rich();
        s.give(1, 0);
        s.stand(0, 3, 2);
        Check.due("n 1: a is the first one", s.plan(0, 1, 1), 0);
        Check.due("n 2: b goes there by the wind", s.plan(0, 1, 2), 6);
        Check.due("n 4: a can't come there by that wind", s.plan(0, 1, 4), 6);
        for (int n : new int[] {0, -1, 5, 6, MIN, MAX}) {
            Check.due("plan(0, 1, " + n + ")", s.plan(0, 1, n), -1);
        }
        for (int child : NO_CHILDREN) {
            Check.due("plan(" + child + ", 1, 1)", s.plan(child, 1, 1), -1);
        }
        for (int field : NO_FIELDS) {
            Check.due("plan(0, " + field + ", 1)", s.plan(0, field, 1), -1);
        }
        Check.due("the last child has none to push", s.plan(2, 1, 2), 6);
        Check.due("without rain it is 0", s.plan(2, 0, 4), 0);
        Look.leaves("plan", x -> x.plan(0, 1, 4));
        Look.leaves("plan refused", x -> x.plan(0, 1, 5));
    }

    private static void promise28Step() {
        Check.about("promise 28");
        for (int n = 1; n <= 4; n++) {
            CloudSchool s = Check.of("hill 5 1;cloud a 1 1 9 0;child k 1 1 9;field f 5 1 9;rain 20;law fall 5;wind 0;");
            s.go(1);
            for (int k = 0; k < n; k++) {
                Check.due("step " + k + " of " + n, s.step(0, 0, n, k), n == 4 ? 1 : 0);
            }
            for (int k : new int[] {n, n + 1, 100, MAX}) {
                Check.due("no so many: " + k + " of " + n, s.step(0, 0, n, k), -2);
            }
            for (int k : new int[] {-1, -2, MIN}) {
                Check.due("k below 0: " + k + " of " + n, s.step(0, 0, n, k), -1);
            }
        }
        CloudSchool s = Look.rich();
        for (int n : new int[] {0, -1, 5, MIN, MAX}) {
            Check.due("step(0, 1, " + n + ", 0)", s.step(0, 1, n, 0), -1);
            Check.due("step(0, 1, " + n + ", 9)", s.step(0, 1, n, 9), -1);
        }
        for (int child : NO_CHILDREN) {
            Check.due("step(" + child + ", 1, 1, 0)", s.step(child, 1, 1, 0), -1);
            Check.due("step(" + child + ", 1, 1, 1)", s.step(child, 1, 1, 1), -1);
        }
        for (int field : NO_FIELDS) {
            Check.due("step(0, " + field + ", 1, 0)", s.step(0, field, 1, 0), -1);
        }
        Look.leaves("step", x -> x.step(0, 1, 4, 3));
        Look.leaves("step refused", x -> x.step(0, 1, 4, 4));
    }

    private static void promise29Rests() {
        Check.about("promise 29: NONE: no such CHILDREN, alike");
        CloudSchool s = Look.rich();
        Check.due("nothing to have in one hour", s.rests(0, 2), 25);
        Check.due("the other way round", s.rests(2, 0), 25);
        for (int child = 0; child < 3; child++) {
            Check.due("alike " + child, s.rests(child, child), -1);
        }
        for (int child : NO_CHILDREN) {
            Check.due("rests(" + child + ", 0)", s.rests(child, 0), -1);
            Check.due("rests(0, " + child + ")", s.rests(0, child), -1);
            Check.due("rests(" + child + ", " + child + ")", s.rests(child, child), -1);
        }
        Look.leaves("rests", x -> x.rests(0, 1));
        Look.leaves("rests refused", x -> x.rests(0, 0));
    }

    private static void promise30Rest() {
        Check.about("promise 30: -2: there are no so many; NONE likewise, k is below 0");
        CloudSchool s = Look.rich();
        Check.due("the first", s.rest(0, 2, 0), 0);
        Check.due("the last", s.rest(0, 2, 24), 44);
        for (int k : new int[] {25, 26, MAX}) {
            Check.due("rest(0, 2, " + k + ")", s.rest(0, 2, k), -2);
        }
        for (int k : new int[] {-1, -2, MIN}) {
            Check.due("rest(0, 2, " + k + ")", s.rest(0, 2, k), -1);
        }
        for (int child = 0; child < 3; child++) {
            Check.due("alike " + child, s.rest(child, child, 0), -1);
            Check.due("alike and too many " + child, s.rest(child, child, 25), -1);
        }
        for (int child : NO_CHILDREN) {
            Check.due("rest(" + child + ", 0, 0)", s.rest(child, 0, 0), -1);
            Check.due("rest(0, " + child + ", 0)", s.rest(0, child, 0), -1);
        }
        Look.leaves("rest", x -> x.rest(0, 1, 3));
        Look.leaves("rest refused", x -> x.rest(0, 1, -1));
    }

    private static void promise31Note() {
        Check.about("promise 31: NONE: no such ones");
        CloudSchool s = Look.rich();
        for (int hours : new int[] {0, -1, 41, 42, MIN, MAX}) {
            Check.due("note(" + hours + ", 0, 0, true)", s.note(hours, 0, 0, true), -1);
            Look.leaves("note(" + hours + ", 0, 0, true)", x -> x.note(hours, 0, 0, true));
        }
        for (int bad : new int[] {-1, 6, 7, MIN, MAX}) {
            Check.due("note(1, " + bad + ", 0, true)", s.note(1, bad, 0, true), -1);
            Check.due("note(1, 0, " + bad + ", false)", s.note(1, 0, bad, false), -1);
        }
        Check.due("note(1, 0, 4, true)", s.note(1, 0, 4, true), -1);
        Look.leaves("note(1, 6, 0, true)", x -> x.note(1, 6, 0, true));
        Look.leaves("note(1, 0, 4, true)", x -> x.note(1, 0, 4, true));
        Check.due("hours 1", s.note(1, 0, 0, false), 3);
        Check.due("hours 40", s.note(40, 0, 0, false), 4);
        Check.due("the last cell", s.note(1, 5, 3, false), 5);
        Check.due("the same again", s.note(1, 5, 3, false), 6);
        Check.due("seven", s.count(12), 7);
        Check.due("a note can't be undone", s.count(14), 4);
    }

    private static void promise31NoteFull() {
        Check.about("promise 31: or there are 24");
        CloudSchool s = Check.of("cloud a 1 1 3 0;");
        for (int i = 0; i < 24; i++) {
            Check.due("note " + i, s.note(1 + i, 1, 1, true), i);
        }
        Check.due("no 25th", s.note(1, 1, 1, true), -1);
        Check.due("no 25th that isn't so", s.note(1, 1, 1, false), -1);
        Check.due("24 are left", s.count(12), 24);
        Check.due("all are so", s.sizes(0), 1022);
        Check.due("text(0): none", s.text(0), 0);
        Check.due("note 0 again", s.note(1, 1, 1, true), 0);
    }

    private static void promise32Out() {
        Check.about("promise 32: NONE: no such NOTE");
        CloudSchool s = Look.rich();
        for (int note : new int[] {-1, -2, 3, 4, 23, 24, MIN, MAX}) {
            Check.due("out(" + note + ")", s.out(note), -1);
            Look.leaves("out(" + note + ")", x -> x.out(note));
        }
        Check.due("the first one", s.out(0), 3);
        Check.due("the last one", s.out(3), 4);
        Check.due("one that is struck", s.out(1), 5);
        Check.due("six", s.count(12), 6);
        Check.due("none on a new object", new CloudSchool().out(0), -1);
    }

    private static void promise32OutFull() {
        Check.about("promise 32: or there are 24");
        CloudSchool s = Check.of("cloud a 1 1 3 0;");
        s.note(1, 0, 0, true);
        for (int i = 1; i < 24; i++) {
            Check.due("out " + i, s.out(0), i);
        }
        Check.due("no 25th", s.out(0), -1);
        Check.due("no 25th of the last one", s.out(23), -1);
        Check.due("24 are left", s.count(12), 24);
        Check.due("struck", s.sizes(0), 1022);
    }

    private static void promise33Known() {
        Check.about("promise 33: true; false: no such n");
        for (int n : new int[] {-2, -3, 4, 5, 24, 25, MIN, MAX}) {
            Check.due("known(" + n + ")", Look.rich().known(n), false);
            Look.leaves("known(" + n + ")", x -> x.known(n));
        }
        CloudSchool s = Look.rich();
        for (int n = 0; n <= 3; n++) {
            Check.due("known(" + n + ")", s.known(n), true);
            Check.due("by", s.count(13), n);
            Check.due("again", s.known(n), true);
        }
        Check.due("by all", s.known(-1), true);
        s.note(1, 0, 0, true);
        Check.due("also those to come", s.count(13), 4);
        Check.due("known(4) now", s.known(4), true);
        Check.due("known(0)", s.known(0), true);
        s.note(1, 0, 0, true);
        Check.due("not those to come", s.count(13), 0);
        Check.due("it can't be undone", s.count(14), 4);
        CloudSchool full = Check.of("cloud a 1 1 3 0;");
        for (int i = 0; i < 24; i++) {
            full.note(1, 1, 1, i < 23);
        }
        Check.due("known(25)", full.known(25), false);
        Check.due("known(24)", full.known(24), true);
        Check.due("by 24", full.sizes(0), 0);
        Check.due("known(23)", full.known(23), true);
        Check.due("by 23", full.sizes(0), 1022);
    }

    private static void promise34Sizes() {
        Check.about("promise 34: NONE: no such CLOUD");
        CloudSchool s = Look.rich();
        for (int cloud = 0; cloud < 6; cloud++) {
            Check.due("of any state: " + cloud, s.sizes(cloud), 1022);
        }
        for (int cloud : new int[] {-1, -2, 6, 8, MIN, MAX}) {
            Check.due("sizes(" + cloud + ")", s.sizes(cloud), -1);
        }
        s = Check.of("cloud a 0 0 1 0;cloud b 0 0 1 0;cloud c 0 0 1 0;cloud d 0 0 1 0;cloud e 0 0 1 0;cloud f 0 0 1 0;cloud g 0 0 1 0;"
            + "cloud h 0 0 1 0;");
        Check.due("the eighth", s.sizes(7), 1022);
        Check.due("no ninth", s.sizes(8), -1);
        Look.leaves("sizes", x -> x.sizes(5));
        Look.leaves("sizes refused", x -> x.sizes(6));
    }

    private static void promise35Chance() {
        Check.about("promise 35");
        CloudSchool s = Look.rich();
        for (int seed : new int[] {0, 1, MAX - 1, MAX}) {
            Check.due("chance(" + seed + ", 1, 0, 0)", s.chance(seed, 1, 0, 0), 10);
            Check.due("chance(" + seed + ", 60, 1, 999)", s.chance(seed, 60, 1, 999), 0);
        }
        for (int seed : new int[] {-1, -2, MIN}) {
            Check.due("chance(" + seed + ", 1, 0, 0)", s.chance(seed, 1, 0, 0), -1);
        }
        for (int n : new int[] {0, -1, 61, MIN, MAX}) {
            Check.due("chance(0, " + n + ", 0, 0)", s.chance(0, n, 0, 0), -1);
        }
        for (int field : NO_FIELDS) {
            Check.due("chance(0, 1, " + field + ", 0)", s.chance(0, 1, field, 0), -1);
        }
        for (int rain : new int[] {-1, 1000, 1001, MIN, MAX}) {
            Check.due("chance(0, 1, 0, " + rain + ")", s.chance(0, 1, 0, rain), -1);
        }
        Check.due("the last field, 60 hours", s.chance(0, 60, 1, 0), 10);
        Look.leaves("chance", x -> x.chance(7, 60, 1, 1));
        Look.leaves("chance refused", x -> x.chance(-1, 60, 1, 1));
        s = Check.of("hill 1 1;cloud a 1 1 9 0;field f 1 1 9;field g 5 3 1;law fall 1;seed 5;");
        s.go(3);
        int once = s.chance(5, 1, 0, 1);
        Check.due("what rained ahead is not counted", s.chance(5, 1, 0, 2), 0);
        Check.due("the same seed, the same times", s.chance(5, 1, 0, 1), once);
    }

    private static void promise36Tried() {
        Check.about("promise 36: NONE: no such ones (i 0 of all but 2)");
        CloudSchool s = Look.rich();
        for (int what = 0; what <= 5; what++) {
            Check.due("tried(" + what + ", 0, 0)", s.tried(what, 0, 0), 0);
            for (int n : new int[] {-1, 61, MIN, MAX}) {
                Check.due("tried(" + what + ", 0, " + n + ")", s.tried(what, 0, n), -1);
            }
            for (int i : new int[] {-1, 1, 5, 6, MIN, MAX}) {
                boolean fine = what == 2 && (i == 1 || i == 5);
                Check.due("tried(" + what + ", " + i + ", 0)", s.tried(what, i, 0), fine ? 0 : -1);
            }
        }
        for (int what : new int[] {-1, 6, 7, MIN, MAX}) {
            Check.due("tried(" + what + ", 0, 1)", s.tried(what, 0, 1), -1);
        }
        int[] due = {6, 0, 6, 0, 6, 0};
        for (int what = 0; what <= 5; what++) {
            Check.due("tried(" + what + ", 0, 60)", s.tried(what, 0, 60), due[what]);
        }
        Check.due("without b", s.tried(2, 1, 60), 0);
        for (int cloud = 2; cloud <= 5; cloud++) {
            Check.due("without " + cloud, s.tried(2, cloud, 60), 6);
        }
        Look.leaves("tried", x -> {
            for (int what = 0; what <= 5; what++) {
                x.tried(what, 0, 60);
            }
            x.tried(2, 5, 60);
        });
        Look.leaves("tried refused", x -> x.tried(0, 1, 60));
    }

    private static void promise37Undo() {
        Check.about("promise 37: how many are left; NONE: none");
        CloudSchool s = Look.rich();
        for (int left = 3; left >= 0; left--) {
            Check.due("undo", s.undo(), left);
            Check.due("count(14)", s.count(14), left);
        }
        Check.due("none", s.undo(), -1);
        Check.due("none again", s.undo(), -1);
        Check.due("count(14) stays", s.count(14), 0);
        Check.due("the hour stays", s.count(5), 3);
        Check.cloudIs("a is where it was", s, 0, 2, 1, 3, 3, 0, 1);
        Check.cloudIs("b is l's", s, 1, 4, 1, 6, 3, 1, 1);
        Check.due("l is where it was", s.child(1, 0) * 10 + s.child(1, 1), 31);
        Check.due("the wind is as told", s.blow(-1), false);
        Check.due("notes stay", s.count(12), 3);
        Check.due("the image stays", s.back(), 2);
    }

    private static void promise37UndoOfEachKind() {
        Check.about("promise 37: the latest is undone");
        CloudSchool s = Look.rich();
        s.undo();
        Check.due("the wind first", s.count(6), 0);
        Check.due("l is where it was sent", s.child(1, 0), 0);
        s.undo();
        Check.due("then l", s.child(1, 0), 3);
        Check.due("b is m's yet", s.cloud(1, 4), 2);
        s.undo();
        Check.due("then b", s.cloud(1, 4), 1);
        Check.due("a is pushed yet", s.cloud(0, 1), 2);
        s.undo();
        Check.due("then a", s.cloud(0, 1), 1);
        s = Look.rich();
        s.blow(3);
        s.blow(-1);
        s.undo();
        Check.due("the wind ahead of it", s.count(6), 3);
        s.undo();
        Check.due("and the one ahead of that", s.count(6), 2);
        s.give(0, -1);
        s.undo();
        Check.due("from nobody back", s.cloud(0, 4), 0);
    }

    private static void promise38Keep() {
        Check.about("promise 38: An IMAGE is kept (in place of one ahead)");
        CloudSchool s = Look.rich();
        Check.due("keep", s.keep(), 3);
        Check.due("what can be undone stays", s.count(14), 4);
        Check.due("undo", s.undo(), 3);
        s.go(2);
        Check.due("the later one", s.back(), 3);
        Check.due("with the wind by call", s.count(6), 2);
        s.text(0);
        Check.due("at hour 0", s.keep(), 0);
        Check.due("back to it", s.back(), 0);
    }

    private static void promise39Back() {
        Check.about("promise 39: all (but NOTES) is as in the IMAGE (nothing to undo then)");
        CloudSchool s = Look.rich();
        Check.due("which hour", s.back(), 2);
        Check.due("nothing to undo", s.count(14), 0);
        Check.due("undo", s.undo(), -1);
        Check.cloudIs("a", s, 0, 2, 1, 3, 2, 0, 1);
        Check.cloudIs("b", s, 1, 4, 1, 6, 2, 1, 1);
        Check.due("l", s.child(1, 0) * 10 + s.child(1, 1), 31);
        Check.due("marks", s.count(11), 4);
        Check.due("the wind as told", s.blow(-1), false);
        Check.due("notes", s.count(12), 3);
        Check.due("known", s.count(13), 3);
        Check.due("again", s.back(), 2);
        s.go(99);
        Check.due("and again", s.back(), 2);
        Check.due("forward from it", s.go(1), 3);
        s = Check.of("child k 0 0 0;");
        s.keep();
        s.stand(0, 1, 1);
        Check.due("in the same hour", s.back(), 0);
        Check.due("as in the image", s.child(0, 0), 0);
        Check.due("nothing to undo in the same hour", s.undo(), -1);
    }

    private static void promise39BackWithout() {
        Check.about("promise 39: NONE: there is none");
        CloudSchool s = Check.of("child k 0 0 0;");
        s.stand(0, 1, 1);
        s.go(0);
        Check.due("none", s.back(), -1);
        Check.due("what can be undone stays", s.count(14), 1);
        Check.due("all stays", s.child(0, 0), 1);
        s.keep();
        Check.read(s, "child k 0 0 0;");
        Check.due("none behind a text", s.back(), -1);
        s.keep();
        Check.read(s, "$");
        Check.due("one behind a text with a fault", s.back(), 0);
    }

    private static void promise40Count() {
        Check.about("promise 40");
        CloudSchool s = Look.rich();
        int[] due = {2, 6, 3, 3, 5, 3, 2, 2, 1, 1, 1, 6, 3, 3, 4};
        for (int what = 0; what < due.length; what++) {
            Check.due("count(" + what + ")", s.count(what), due[what]);
        }
        for (int what : new int[] {-1, -2, 15, 16, MIN, MAX}) {
            Check.due("count(" + what + ")", s.count(what), -1);
        }
        s.blow(-1);
        Check.due("the wind as told", s.count(6), 0);
        s.known(0);
        Check.due("known by none", s.count(13), 0);
        s.known(-1);
        Check.due("known by all", s.count(13), 3);
        s.note(1, 1, 1, true);
        Check.due("by all, also those to come", s.count(13), 4);
    }
}
