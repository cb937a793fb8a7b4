import java.io.IOException;
import java.lang.management.ManagementFactory;
import java.lang.reflect.Constructor;
import java.lang.reflect.Field;
import java.lang.reflect.Method;
import java.lang.reflect.Modifier;
import java.nio.file.Files;
import java.nio.file.Path;
import java.util.ArrayList;
import java.util.List;
import java.util.Set;
import java.util.TreeSet;
import java.util.regex.Matcher;
import java.util.regex.Pattern;

/** The public face, the rules of the language that can be seen in the text, and the room that a run takes. */
public final class RulesTest {
    private static final String[] FACE = {
        "int thing(int,int)", "int ends(int,int,int)", "int posts(int,int,int)", "int price(int,int)",
        "int kind(int,int)", "int sheet(int,int,int)", "int write(int,int,int)", "int world(int,int,int)",
        "int forget(int)", "int count(int)", "int choice(int)", "int find(int)", "int of(int,int)",
        "int cost(int,int)", "int cheapest(int)", "int rue(int)", "int rival(int)", "int best()", "int many()",
        "int middle()", "int hold(int)", "int dearest(int,int)", "int few(int)", "int costIn(int,int)",
        "int cheapestIn(int)", "int rueOf(int)", "int bestOf()", "int front(int,int,int)", "long lots(int,int,int)",
        "int two(int)", "int first()", "int image(int)", "int back(int)", "int status()"};
    private static final String[] NEVER = {"throw", "throws", "try", "catch", "synchronized", "assert", "protected",
        "static\\s*\\{", "volatile", "native", "->", "::", "Exact\\(", "System\\.(?!arraycopy)", "Thread", "Object",
        "equals", "hashCode", "toString", "float", "double"};
    private static final int MOST_LINES = 60;
    private static final int MOST_CLASSES = 12;
    private static final int MOST_FIELDS = 20;
    private static final long ROOM_OF_A_CALL = 64;

    private final Check check = new Check("RulesTest");

    public static void main(String[] args) throws IOException {
        RulesTest test = new RulesTest();
        test.face();
        test.text(Files.readString(Path.of("src/main/java/LeastRue.java")));
        test.room();
        test.check.end();
    }

    private void face() {
        Class<?> type = LeastRue.class;
        check.holds("the class is public and final",
            Modifier.isPublic(type.getModifiers()) && Modifier.isFinal(type.getModifiers()));
        Set<String> seen = new TreeSet<>();
        Set<String> names = new TreeSet<>();
        for (Method m : type.getDeclaredMethods()) {
            if (!Modifier.isPrivate(m.getModifiers())) {
                seen.add(signature(m));
                names.add(m.getName());
            }
        }
        check.holds("the methods are those of the face: " + seen, seen.equals(Set.of(FACE)));
        for (Field f : type.getDeclaredFields()) {
            check.holds("a field that is seen: " + f, Modifier.isPrivate(f.getModifiers()) || f.getName().equals("NONE"));
        }
        Constructor<?>[] makers = type.getDeclaredConstructors();
        check.holds("one public constructor",
            makers.length == 1 && Modifier.isPublic(makers[0].getModifiers()) && makers[0].getParameterCount() == 0);
        List<Class<?>> inside = List.of(type.getDeclaredClasses());
        check.holds("few classes", inside.size() < MOST_CLASSES);
        List<Class<?>> all = new ArrayList<>(inside);
        all.add(type);
        for (Class<?> c : all) {
            classInside(c, names);
        }
    }

    private void classInside(Class<?> c, Set<String> names) {
        check.holds(c + " is static", c == LeastRue.class || Modifier.isStatic(c.getModifiers()));
        int fields = 0;
        for (Field f : c.getDeclaredFields()) {
            boolean isStatic = Modifier.isStatic(f.getModifiers());
            fields += isStatic ? 0 : 1;
            check.holds("a static field that can change: " + f, !isStatic || Modifier.isFinal(f.getModifiers()));
        }
        check.holds(c + " has few fields", fields <= MOST_FIELDS);
        for (Method m : c.getDeclaredMethods()) {
            boolean isFace = c == LeastRue.class && Modifier.isPublic(m.getModifiers());
            check.holds("a method inside bears a public name: " + m, isFace || !names.contains(m.getName()));
            check.holds("few parameters: " + m, m.getParameterCount() <= 7);
        }
    }

    private static String signature(Method m) {
        StringBuilder s = new StringBuilder(m.getReturnType().getName()).append(' ').append(m.getName()).append('(');
        for (int i = 0; i < m.getParameterCount(); i++) {
            s.append(i == 0 ? "" : ",").append(m.getParameterTypes()[i].getName());
        }
        return s.append(')').toString();
    }

    private void text(String source) {
        String code = source.replaceAll("(?s)/\\*.*?\\*/", "").replaceAll("//[^\n]*", "");
        for (String never : NEVER) {
            String word = Character.isLetter(never.charAt(0)) ? "\\b" + never : never;
            word = Character.isLetter(never.charAt(never.length() - 1)) ? word + "\\b" : word;
            Matcher m = Pattern.compile(word).matcher(code);
            check.holds("not in this language: " + never, !m.find());
        }
        Matcher imports = Pattern.compile("import ([^;]*);").matcher(code);
        while (imports.find()) {
            check.holds("import " + imports.group(1), imports.group(1).equals("java.util.Arrays"));
        }
        check.holds("no package", !code.contains("package "));
        Matcher texts = Pattern.compile("(?m)^( +)[^ \n][^\n]*\\) \\{\n((?:\\1 [^\n]*\n|\n)*)\\1\\}").matcher(code);
        int methods = 0;
        while (texts.find()) {
            methods++;
            check.holds("a long method: " + texts.group().split("\n")[0], texts.group(2).split("\n").length <= MOST_LINES);
        }
        check.holds("methods were seen", methods > FACE.length);
    }

    /** All rows are made with the object: what its calls make, the dearest too, is next to nothing. */
    private void room() {
        com.sun.management.ThreadMXBean threads =
            (com.sun.management.ThreadMXBean) ManagementFactory.getThreadMXBean();
        long id = Thread.currentThread().getId();
        run(new LeastRue());
        LeastRue x = new LeastRue();
        long before = threads.getThreadAllocatedBytes(id);
        int calls = run(x);
        long made = threads.getThreadAllocatedBytes(id) - before;
        check.holds("bytes made by " + calls + " calls: " + made, made <= calls * ROOM_OF_A_CALL);
        before = threads.getThreadAllocatedBytes(id);
        LeastRue y = new LeastRue();
        made = threads.getThreadAllocatedBytes(id) - before;
        check.holds("bytes made by the constructor: " + made, y.count(0) == 0 && made <= 100_000);
    }

    private static int run(LeastRue x) {
        int calls = 0;
        for (int t = 0; t < 12; t++) {
            x.thing(t, 20 + 3 * t);
            x.posts(t, t % 6, (t + 1) % 6);
            calls += 2;
        }
        x.kind(0, 4);
        for (int round = 0; round < 25; round++) {
            x.sheet(round % 4, 2, 100);
            x.write(round % 4, 3, 7);
            x.world(round % 8, round % 4, 0);
            x.ends(0, round, 100);
            x.image(round % 3);
            x.back(round % 3);
            x.best();
            x.hold(3);
            x.few(3);
            x.rueOf(4);
            x.bestOf();
            x.front(0, 0, -1);
            x.lots(0, round % 8, 0);
            x.first();
            x.two(7);
            x.middle();
            calls += 16;
        }
        return calls;
    }
}
