import java.lang.reflect.Method;
import java.lang.reflect.Modifier;
import java.util.Random;

/** The face as the document gives it, and that no call throws by itself, whatever it is given in whatever state. */
public final class FaceTest {
    private static final String FACE = "back blow chance child cloud could count enough fault feed field give go ground in keep "
        + "known lacks law likely named note out plan push rest rests sees sizes stand station step swap swaps text tried undo whose ahead";
    private static final int[] EDGES = {0, 1, 2, 3, 4, 5, 6, 7, 8, 9, -1, -2, 24, 40, 60, 61, 99, 100, 700,
        Integer.MAX_VALUE, Integer.MIN_VALUE, 0x3b3b3b3b, 0x28282828};

    public static void main(String[] args) throws Exception {
        members();
        anyArguments("");
        anyArguments("water 0 0;hill 5 3;field a 1 1 5;field b 5 3 9;cloud a 0 0 9 0;cloud b 1 1 5 1;cloud c 1 2 1 0;"
            + "child a 1 1 1;child b 4 3 3;wind 2;wind 0;rain 3;most 1;law grow 1/(size-5);law fall size*size;law mark far-marks;");
        anyArguments(full());
        Check.end("FaceTest");
    }

    private static void members() {
        Check.due("NONE", CloudSchool.NONE, -1);
        Check.due("public fields", CloudSchool.class.getFields().length, 1);
        Check.due("constructors", CloudSchool.class.getDeclaredConstructors().length, 1);
        Check.due("final", Modifier.isFinal(CloudSchool.class.getModifiers()), true);
        String names = " " + FACE + " ";
        int many = 0;
        for (Method method : CloudSchool.class.getDeclaredMethods()) {
            if (Modifier.isPrivate(method.getModifiers()) || method.isSynthetic()) {
                Check.due("a private method bears a name of the face: " + method.getName(),
                    names.contains(" " + method.getName() + " "), false);
            } else {
                many++;
                Check.due("of the face: " + method.getName(), names.contains(" " + method.getName() + " "), true);
            }
        }
        Check.due("methods of the face", many, FACE.split(" ").length);
    }

    /** A text with as many of each kind as there may be. */
    private static String full() {
        StringBuilder text = new StringBuilder("most 2;rain 2;law mark size;");
        for (int i = 0; i < 12; i++) {
            char name = (char) ('a' + i);
            text.append("wind ").append(i % 7 == 3 ? 1 : 0).append(';');
            text.append(i < 5 ? "field " + name + " " + i + " 1 9;" : "");
            text.append(i < 8 ? "cloud " + name + " " + i % 6 + " " + i % 4 + " 5 " + i / 4 + ";" : "");
            text.append(i < 6 ? "child " + name + " " + i + " 2 2;" : "");
        }
        return text.toString();
    }

    private static void anyArguments(String text) throws Exception {
        Random random = new Random(7);
        for (int run = 0; run < 60; run++) {
            CloudSchool school = Check.of(text);
            school.go(run % 4);
            for (int i = 0; i < 400; i++) {
                for (Method method : CloudSchool.class.getDeclaredMethods()) {
                    boolean fed = method.getName().equals("feed") || method.getName().equals("text");
                    if (Modifier.isPublic(method.getModifiers()) && random.nextInt(fed ? 80 : 20) == 0) {
                        call(school, method, random);
                    }
                }
            }
        }
    }

    private static void call(CloudSchool school, Method method, Random random) throws Exception {
        Class<?>[] types = method.getParameterTypes();
        Object[] values = new Object[types.length];
        for (int i = 0; i < values.length; i++) {
            int bound = random.nextInt(3) == 0 ? EDGES.length : 3;
            values[i] = types[i] == boolean.class ? (Object) random.nextBoolean() : (Object) EDGES[random.nextInt(bound)];
        }
        try {
            method.invoke(school, values);
        } catch (java.lang.reflect.InvocationTargetException e) {
            boolean promised = method.getName().equals("cloud") && (e.getCause().getClass() == IndexOutOfBoundsException.class
                || e.getCause().getClass() == java.util.NoSuchElementException.class);
            Check.due(method.getName() + " throws " + e.getCause(), promised, true);
        }
    }
}
