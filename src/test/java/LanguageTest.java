import java.io.IOException;
import java.lang.reflect.Field;
import java.lang.reflect.Member;
import java.lang.reflect.Method;
import java.lang.reflect.Modifier;
import java.nio.file.Files;
import java.nio.file.Path;
import java.util.Arrays;
import java.util.Set;
import java.util.TreeSet;
import java.util.regex.Matcher;
import java.util.regex.Pattern;

/** The class against LANGUAGE.md, as far as a program can tell: the face, the words, the room. */
public final class LanguageTest {
    private static final Path SOURCE = Path.of("src", "main", "java", "AvalancheVote.java");

    private static final String[] FACE = {
        "int mountain()", "int ledge(int, int, int)", "int voter(int, int, int)", "int type(int)", "int clear()",
        "int read()", "int vote(int)", "int night(int)", "int undo()", "int of(int, int)", "int about(int, int)",
        "int winner()", "int coalition()", "int february(int)", "int orders(int, int)", "int stones(int, int)",
        "int buried(int, int)", "int nights(int, int)", "int parties(int, int, int, int)", "int seen(int, int)",
        "int forget()", "int hold(int)", "int stick()", "int is(int, int, int)", "int sneeze(int, int)",
        "int februaries(int, int)", "long part(int)", "int image(int)", "int from(int)", "int status(int)",
        "int count(int)", "long digest()"
    };

    private static int wrong = 0;

    private static void rule(int number, boolean kept, String what) {
        if (!kept) {
            wrong++;
            System.out.println("rule " + number + ": " + what);
        }
    }

    public static void main(String[] args) throws IOException {
        face();
        classesInside();
        words(withoutComments(Files.readString(SOURCE)));
        methodLengths(Files.readString(SOURCE));
        room();
        System.out.println(wrong == 0 ? "the language is kept" : wrong + " rules are broken");
        if (wrong != 0) {
            System.exit(1);
        }
    }

    private static String told(Method m) {
        StringBuilder s = new StringBuilder(m.getReturnType().getName() + " " + m.getName() + "(");
        for (Class<?> p : m.getParameterTypes()) {
            s.append(s.charAt(s.length() - 1) == '(' ? "" : ", ").append(p.getName());
        }
        return s + ")";
    }

    private static void face() {
        Class<?> c = AvalancheVote.class;
        rule(1, Modifier.isFinal(c.getModifiers()) && Modifier.isPublic(c.getModifiers()), "public and final");
        Set<String> open = new TreeSet<>();
        Set<String> openNames = new TreeSet<>();
        for (Method m : c.getDeclaredMethods()) {
            if (Modifier.isPublic(m.getModifiers())) {
                open.add(told(m));
                openNames.add(m.getName());
            }
        }
        rule(1, open.equals(new TreeSet<>(Arrays.asList(FACE))), "the face is " + open);
        for (Method m : c.getDeclaredMethods()) {
            onlyPublicOrPrivate(m);
            rule(1, Modifier.isPublic(m.getModifiers()) || !openNames.contains(m.getName()), "private " + m);
        }
        Set<String> constants = new TreeSet<>();
        for (Field f : c.getDeclaredFields()) {
            onlyPublicOrPrivate(f);
            if (Modifier.isPublic(f.getModifiers())) {
                constants.add(f.getName());
            }
            rule(5, !Modifier.isStatic(f.getModifiers()) || Modifier.isFinal(f.getModifiers()), "static " + f);
        }
        rule(1, constants.equals(Set.of("NONE", "BAD", "NO", "FULL")), "constants " + constants);
        rule(1, c.getDeclaredConstructors().length == 1 && c.getConstructors().length == 1, "one constructor");
    }

    private static void onlyPublicOrPrivate(Member m) {
        rule(1, Modifier.isPublic(m.getModifiers()) || Modifier.isPrivate(m.getModifiers()), "open member " + m);
    }

    private static void classesInside() {
        Class<?>[] inside = AvalancheVote.class.getDeclaredClasses();
        rule(11, inside.length + 1 <= 12, "classes: " + (inside.length + 1));
        for (Class<?> c : inside) {
            rule(2, Modifier.isStatic(c.getModifiers()), "not static: " + c);
            long fields = Arrays.stream(c.getDeclaredFields()).filter(f -> !Modifier.isStatic(f.getModifiers())).count();
            rule(11, fields <= 20, "fields of " + c + ": " + fields);
            for (Method m : c.getDeclaredMethods()) {
                rule(11, m.getParameterCount() <= 7, "parameters of " + m);
            }
        }
    }

    private static String withoutComments(String source) {
        return source.replaceAll("(?s)/\\*.*?\\*/", " ").replaceAll("//[^\n]*", " ");
    }

    private static void words(String code) {
        Matcher forbidden = Pattern.compile(
                "\\b(throw|throws|try|catch|finally|synchronized|assert|protected|package|native|volatile|transient|"
                + "hashCode|toString|System\\.(?!arraycopy)\\w+|Exact\\b|Object|String\\.format|Thread|double|float)\\b"
                + "|->|::|@|\\+ *\"|\" *\\+").matcher(code);
        while (forbidden.find()) {
            rule(6, false, "'" + forbidden.group() + "' stands in the code");
        }
        Matcher imports = Pattern.compile("import ([^;]+);").matcher(code);
        while (imports.find()) {
            rule(4, imports.group(1).equals("java.util.Arrays"), "import " + imports.group(1));
        }
        rule(4, code.chars().allMatch(c -> c < 128), "signs above 127");
    }

    private static void methodLengths(String source) {
        String[] lines = source.split("\n");
        int from = -1;
        String indent = "";
        for (int i = 0; i < lines.length; i++) {
            Matcher head = Pattern.compile("^( {8}| {4})(?=\\S)(?!return|else|for|while|if|switch)[\\w\\[\\] ]+\\(.*\\{$").matcher(lines[i]);
            if (from < 0 && head.find()) {
                from = i;
                indent = head.group(1);
            } else if (from >= 0 && lines[i].equals(indent + "}")) {
                rule(11, i - from + 1 <= 60, "a method of " + (i - from + 1) + " lines: " + lines[from]);
                from = -1;
            }
        }
    }

    /** No call makes anything: so whatever a run does, the room holds what the constructor made. */
    private static void room() {
        AvalancheVote x = new AvalancheVote();
        long ignored = calls(x);
        com.sun.management.ThreadMXBean threads =
                (com.sun.management.ThreadMXBean) java.lang.management.ManagementFactory.getThreadMXBean();
        long self = Thread.currentThread().getId();
        ignored += threads.getThreadAllocatedBytes(self);
        long asking = -threads.getThreadAllocatedBytes(self) + threads.getThreadAllocatedBytes(self);
        long before = threads.getThreadAllocatedBytes(self);
        ignored += calls(x);
        long made = threads.getThreadAllocatedBytes(self) - before - asking;
        rule(12, made <= 0, made + " bytes were made by calls" + (ignored == 0 ? " " : ""));
        before = threads.getThreadAllocatedBytes(self);
        AvalancheVote y = new AvalancheVote();
        made = threads.getThreadAllocatedBytes(self) - before - asking;
        rule(12, made <= 20000 && y.count(0) == 0, made + " bytes were made by the constructor");
    }

    private static long calls(AvalancheVote x) {
        String text = "mountain;ledge 60 30;below 4 3 0;below 4 3 0;below 4 3 0;voter 0 1 1;voter 1 2 4;voter 5 0 3;";
        long sum = x.clear();
        for (int i = 0; i < text.length(); i++) {
            sum += x.type(text.charAt(i));
        }
        sum += x.read() + x.ledge(5, 4, 3) + x.voter(4, 4, 3) + x.voter(3, 1, 7) + x.voter(2, 1, 7) + x.voter(9, 9, 9);
        sum += x.seen(5, 1) + x.stick() + x.hold(0) + x.image(0) + x.image(1);
        for (int k = 0; k < 5; k++) {
            sum += x.orders(k, -1) + x.orders(k, 0) + x.stones(k, 0) + x.buried(k, 20) + x.nights(k, 1);
            sum += x.parties(k, (k + 1) % 5, 4, 0) + x.is(0, k, 1) + x.sneeze(k, 3) + x.part(0) + x.of(k, 1);
        }
        sum += x.february(0) + x.februaries(77, 60) + x.digest() + x.status(0) + x.count(3) + x.about(1, 3);
        for (int i = 0; i < 12; i++) {
            sum += x.vote(i % 6) + x.night(3) + x.winner() + x.coalition();
        }
        return sum + x.undo() + x.from(0) + x.forget() + x.mountain() + x.read();
    }
}
