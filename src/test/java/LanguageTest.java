import java.io.IOException;
import java.lang.management.ManagementFactory;
import java.lang.reflect.Constructor;
import java.lang.reflect.Field;
import java.lang.reflect.Method;
import java.lang.reflect.Modifier;
import java.nio.charset.StandardCharsets;
import java.nio.file.Files;
import java.nio.file.Path;
import java.util.Arrays;
import java.util.List;
import java.util.Set;
import java.util.TreeSet;
import java.util.regex.Matcher;
import java.util.regex.Pattern;
import java.util.stream.Collectors;

/** The rules of LANGUAGE.md that a program can look after, the face, and what a run makes. */
public final class LanguageTest {
    private static final String FACE = "feed 1, rule 1, drop 1, set 2, cell 1, ask 2, fresh 2, steps 0, bound 1, policy 1, "
        + "kept 2, asked 2, key 2, wave 1, would 1, heirs 1, chain 1, next 0, clear 0, start 3, step 2, stop 1, task 2, "
        + "frame 2, led 1, count 1";

    public static void main(String[] args) throws IOException {
        String source = Files.readString(Path.of("src/main/java/MemoByWeight.java"), StandardCharsets.UTF_8);
        words(source.replaceAll("(?s)/\\*.*?\\*/", " ").replaceAll("//[^\n]*", " "));
        lengths(source);
        face();
        for (Class<?> inside : MemoByWeight.class.getDeclaredClasses()) {
            nested(inside);
        }
        members(MemoByWeight.class);
        room();
        Script.end();
    }

    private static void check(boolean good, String what) {
        if (!good) {
            Script.wrong(what);
        }
    }

    private static void words(String code) {
        String[] never = {"throw", "throws", "try", "catch", "synchronized", "assert", "import", "package", "instanceof",
            "Object", "Math\\.\\w+Exact", "System\\.(?!arraycopy)", "Thread", "hashCode", "toString", "equals", "float",
            "double", "protected", "Scanner"};
        for (String word : never) {
            Matcher found = Pattern.compile("\\b" + word + "\\b").matcher(code);
            check(!found.find(), "rule 4, 6 or 13: " + word);
        }
        check(!code.contains("->") && !code.contains("::"), "rule 2: a lambda or a method reference");
        check(!code.contains("\""), "no texts are needed");
        check(!code.contains("while"), "rule 9: loops that count have an end that can be seen");
    }

    private static void lengths(String source) {
        List<String> lines = source.lines().collect(Collectors.toList());
        String begins = "^( {4}| {8})(\\w+ )*\\w[\\w\\[\\]]* ?\\w*\\(.*\\{$";
        for (int i = 0; i < lines.size(); i++) {
            check(lines.get(i).length() <= 120, "line " + (i + 1) + " is long");
            if (lines.get(i).matches(begins)) {
                String end = lines.get(i).replaceAll("\\S.*", "") + "}";
                int last = i;
                while (last < lines.size() && !lines.get(last).equals(end)) {
                    last++;
                }
                check(last - i < 60, "rule 11: the method at line " + (i + 1) + " is long");
            }
        }
    }

    private static void face() {
        Class<?> c = MemoByWeight.class;
        check(Modifier.isPublic(c.getModifiers()) && Modifier.isFinal(c.getModifiers()), "rule 1: public final class");
        Set<String> due = new TreeSet<>(Arrays.asList(FACE.split(", ")));
        Set<String> found = new TreeSet<>();
        for (Method m : c.getDeclaredMethods()) {
            if (Modifier.isPublic(m.getModifiers())) {
                found.add(m.getName() + " " + m.getParameterCount());
                check(m.getReturnType() == int.class && !Modifier.isStatic(m.getModifiers()), "the face: " + m);
            }
        }
        check(found.equals(due), "the face: " + found);
        Constructor<?>[] made = c.getDeclaredConstructors();
        check(made.length == 1 && made[0].getParameterCount() == 0 && Modifier.isPublic(made[0].getModifiers()),
            "the face: the constructor");
        check(MemoByWeight.BAD == -20001 && MemoByWeight.NOT == -20002 && MemoByWeight.STATE == -20003
            && MemoByWeight.FULL == -20004, "the face: the constants");
        Set<String> constants = Set.of("BAD", "NOT", "STATE", "FULL");
        for (Field f : c.getDeclaredFields()) {
            boolean isPublic = Modifier.isPublic(f.getModifiers());
            check(isPublic == constants.contains(f.getName()), "rule 1: " + f);
            check(isPublic || Modifier.isPrivate(f.getModifiers()), "rule 1: " + f);
        }
        check(c.getDeclaredClasses().length <= 12, "rule 11: twelve classes");
    }

    private static void nested(Class<?> inside) {
        check(Modifier.isStatic(inside.getModifiers()), "rule 2: " + inside);
        check(!Modifier.isPublic(inside.getModifiers()), "rule 1: " + inside);
        members(inside);
    }

    private static void members(Class<?> c) {
        int fields = 0;
        for (Field f : c.getDeclaredFields()) {
            boolean isStatic = Modifier.isStatic(f.getModifiers());
            check(!isStatic || Modifier.isFinal(f.getModifiers()), "rule 5: " + f);
            fields += isStatic ? 0 : 1;
        }
        check(fields <= 20, "rule 11: fields of " + c);
        Set<String> face = Arrays.stream(FACE.split(", ")).map(s -> s.split(" ")[0]).collect(Collectors.toSet());
        for (Method m : c.getDeclaredMethods()) {
            check(m.getParameterCount() <= 7, "rule 11: " + m);
            if (!Modifier.isPublic(m.getModifiers())) {
                check(!face.contains(m.getName()), "rule 1: " + m + " bears the name of a public one");
            }
        }
    }

    /** An object is made once, and its calls make nothing more. */
    private static void room() {
        if (!(ManagementFactory.getThreadMXBean() instanceof com.sun.management.ThreadMXBean threads)) {
            return;
        }
        int[][] fed = new int[3][];
        fed[0] = "x<1?0:f0(x-1)+f1(x)".chars().toArray();
        fed[1] = "c0?f2(x)*2:x+f2(-x)".chars().toArray();
        fed[2] = "-x+x?x:(x?1:2)".chars().toArray();
        busyCalls(new MemoByWeight(), fed);
        long before = threads.getCurrentThreadAllocatedBytes();
        MemoByWeight x = new MemoByWeight();
        long made = threads.getCurrentThreadAllocatedBytes();
        busyCalls(x, fed);
        long after = threads.getCurrentThreadAllocatedBytes();
        System.out.println("an object takes " + (made - before) + " bytes, the calls of a run " + (after - made));
        check(made - before < 150_000, "room: an object takes " + (made - before) + " bytes");
        check(after - made < 2_000, "room: calls made " + (after - made) + " bytes");
    }

    private static void busyCalls(MemoByWeight x, int[][] fed) {
        for (int i = 0; i < 512; i++) {
            int n = i % 16;
            for (int k = 0; n == 0 && k < fed[i / 16 % 3].length; k++) {
                x.feed(fed[i / 16 % 3][k]);
            }
            x.rule(n == 0 ? i / 16 % 3 : -1);
            x.ask(0, i % 40);
            x.fresh(0, i % 40);
            x.start(i % 4, i % 3, i % 29);
            x.step(i % 4, 100);
            x.set(0, i % 3);
            x.heirs(50 + i % 40);
            x.chain(50 + i % 40);
            x.key(0, 7);
            x.bound(100 + i % 200);
            x.next();
        }
    }
}
