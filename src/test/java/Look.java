import java.util.function.Consumer;

/** All that can be asked of a school without a change, as one text: two schools that look alike are alike. */
final class Look {
    static final int TO_COME = 5;
    static final int LOST = 4;
    static final int OVER = 3;
    static final int JOINED = 2;

    private Look() {
    }

    /**
     * A school in which a call has much to spoil: at hour 3, clouds a (of k, at 2 2) and b (of m, at 4 1) in the sky, c joined,
     * d over, e lost, f to come; children k, l, m; fields f, g; three notes, the second one struck; known by three; four deeds
     * to undo; an image of hour 2; twenty blanks on the tape.
     */
    static CloudSchool rich() {
        CloudSchool s = Check.of("water 1 1;hill 4 3;field f 2 1 9;field g 4 3 3;cloud a 1 1 3 0;cloud b 3 1 4 0;cloud c 3 1 2 0;"
            + "cloud d 4 3 1 0;cloud e 5 0 2 0;cloud f 2 2 5 50;child k 1 1 1;child l 3 1 0;child m 0 3 0;wind 0;wind 1;wind 0;"
            + "rain 20;law grow 0;law fall size;law mark size>2;");
        s.go(2);
        s.keep();
        s.go(1);
        s.note(1, 1, 1, true);
        s.note(2, 0, 0, true);
        s.out(1);
        s.known(3);
        s.push(0, 2);
        s.give(1, 2);
        s.stand(1, 0, 0);
        s.blow(2);
        s.feed(0x20202020, 0x20202020, 0x20202020, 0x20202020, 0x20202020);
        return s;
    }

    /** That a call leaves all of the rich school as it was. */
    static void leaves(String call, Consumer<CloudSchool> calling) {
        CloudSchool called = rich();
        calling.accept(called);
        Check.alike("all behind " + call, whole(called), whole(rich()));
    }

    /** What is now: clouds, children, fields, and all that is counted. */
    static String now(CloudSchool s) {
        StringBuilder all = new StringBuilder();
        for (int what = 0; what <= 14; what++) {
            all.append(s.count(what)).append(what < 14 ? "," : " clouds");
        }
        int clouds = s.count(1);
        for (int cloud = 0; cloud < clouds; cloud++) {
            all.append(' ');
            for (int what = 0; what <= 5; what++) {
                all.append(s.cloud(cloud, what)).append(',');
            }
        }
        all.append(" children");
        int children = s.count(2);
        for (int child = 0; child < children; child++) {
            all.append(' ');
            for (int what = 0; what <= 5; what++) {
                all.append(s.child(child, what)).append(',');
            }
        }
        all.append(" fields");
        int fields = s.count(0);
        for (int field = 0; field < fields; field++) {
            all.append(' ').append(s.field(field, 2)).append(',').append(s.field(field, 3)).append(',').append(s.whose(field));
        }
        return all.toString();
    }

    /** What a deed may change. */
    private static String places(CloudSchool s) {
        StringBuilder all = new StringBuilder("wind ").append(s.count(6));
        int clouds = s.count(1);
        for (int cloud = 0; cloud < clouds; cloud++) {
            all.append(' ').append(s.cloud(cloud, 0)).append(s.cloud(cloud, 1)).append(s.cloud(cloud, 4)).append(s.cloud(cloud, 5));
        }
        int children = s.count(2);
        for (int child = 0; child < children; child++) {
            all.append(' ').append(s.child(child, 0)).append(s.child(child, 1));
        }
        return all.toString();
    }

    /**
     * What is now, and what stands behind it: the ground, laws, notes, the fault, how full the tape is, what can be undone,
     * the image. The school is used up by it.
     */
    static String whole(CloudSchool s) {
        StringBuilder all = new StringBuilder(now(s)).append(" ground ");
        for (int cell = 0; cell < 24; cell++) {
            all.append(s.ground(cell % 6, cell / 6));
        }
        all.append(" laws");
        for (int law = 0; law < 3; law++) {
            all.append(' ').append(s.law(law, 0));
        }
        all.append(" sizes");
        int clouds = s.count(1);
        for (int cloud = 0; cloud < clouds; cloud++) {
            all.append(' ').append(s.sizes(cloud));
        }
        all.append(" ahead ").append(s.ahead(9, 1)).append(' ').append(s.ahead(9, 2));
        all.append(" fault ").append(s.fault(0)).append(' ').append(s.fault(1));
        all.append(" tape ").append(s.feed(0, 0, 0, 0, 0));
        for (int left = s.count(14); left > 0; left--) {
            all.append("\n    undone: ").append(s.undo()).append(' ').append(places(s));
        }
        all.append("\n    back: ").append(s.back()).append(' ').append(now(s));
        return all.append(" sizes ").append(s.sizes(0)).toString();
    }
}
