import java.lang.reflect.Method;
import java.lang.reflect.Modifier;
import java.util.HashMap;
import java.util.Map;

/** One object and the calls on it, told by name; a wrong answer is printed with the sentence that it breaks. */
final class Run {
    /** What later calls answer is free, so no test may go beyond it. */
    static final int MOST_CALLS = 512;

    private static final Map<String, Method> FACE = new HashMap<>();
    private static String sentence = "";
    private static int wrong = 0;
    private static int sentences = 0;

    private final AvalancheVote object = new AvalancheVote();
    private int calls = 0;

    static {
        for (Method m : AvalancheVote.class.getDeclaredMethods()) {
            if (Modifier.isPublic(m.getModifiers())) {
                FACE.put(m.getName(), m);
            }
        }
    }

    /** The sentence of the document that the next answers are due by. */
    static void sentence(int promise, String words) {
        sentence = "promise " + promise + ", '" + words + "'";
        sentences++;
    }

    static void fail(String what) {
        wrong++;
        System.out.println(sentence + ": " + what);
    }

    static void finish() {
        System.out.println(wrong == 0 ? sentences + " sentences hold" : wrong + " answers are not as due");
        if (wrong != 0) {
            System.exit(1);
        }
    }

    static String text(String name, int... numbers) {
        StringBuilder s = new StringBuilder(name).append('(');
        for (int i = 0; i < numbers.length; i++) {
            s.append(i == 0 ? "" : ", ").append(numbers[i]);
        }
        return s.append(')').toString();
    }

    long call(String name, int... numbers) {
        calls++;
        if (calls == MOST_CALLS + 1) {
            fail("this test makes more than " + MOST_CALLS + " calls on one object");
        }
        Object[] boxed = new Object[numbers.length];
        for (int i = 0; i < numbers.length; i++) {
            boxed[i] = numbers[i];
        }
        try {
            return ((Number) FACE.get(name).invoke(object, boxed)).longValue();
        } catch (ReflectiveOperationException e) {
            fail(text(name, numbers) + " threw " + e.getCause());
            return Long.MIN_VALUE;
        }
    }

    Run due(long want, String name, int... numbers) {
        long got = call(name, numbers);
        if (got != want) {
            fail("call " + calls + ", " + text(name, numbers) + ", answered " + got + ", due is " + want);
        }
        return this;
    }

    /** A call whose answer another test looks at. */
    Run then(String name, int... numbers) {
        call(name, numbers);
        return this;
    }

    Run times(int n, String name, int... numbers) {
        for (int i = 0; i < n; i++) {
            call(name, numbers);
        }
        return this;
    }

    Run typed(String text) {
        call("clear");
        for (char c : text.toCharArray()) {
            call("type", c);
        }
        return this;
    }

    /** The text is typed and read, and has so many items. */
    Run told(int items, String text) {
        return typed(text).due(items, "read");
    }

    Run status(int bad, int no, int full) {
        return due(bad, "status", 0).due(no, "status", 1).due(full, "status", 2);
    }

    Run counts(int... want) {
        for (int what = 0; what < want.length; what++) {
            due(want[what], "count", what);
        }
        return this;
    }
}
