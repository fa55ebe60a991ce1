import com.sun.source.tree.Tree;
import java.io.IOException;
import java.lang.management.ManagementFactory;
import java.lang.reflect.Array;
import java.lang.reflect.Field;
import java.lang.reflect.Member;
import java.lang.reflect.Method;
import java.lang.reflect.Modifier;
import java.nio.file.Files;
import java.nio.file.Path;
import java.util.ArrayList;
import java.util.Arrays;
import java.util.Comparator;
import java.util.EnumSet;
import java.util.List;
import java.util.Random;
import java.util.Set;
import java.util.TreeSet;
import java.util.regex.Matcher;
import java.util.regex.Pattern;

/** The rules of LANGUAGE.md that can be read off the source and the class, and what calls make. */
public final class LanguageTest {
    private static final Path SOURCE = Path.of("src/main/java/PointLayers.java");
    private static final String FACE =
        "put(int,int,int)int take(int)int move(int,int,int)int scatter(int,int)int sweep(int,int,int,int)int "
        + "counter(int)int undo()int of(int,int)int nth(int)int count(int,int,int,int)int many(int,int,int,int)int "
        + "kth(int,int,int,int,int)int half(int,int,int,int)int below(int,int)int ring(int,int,int)int "
        + "near(int,int)int strip(int)int square(int,int)int pairs()int stair(int)int layers(int)int "
        + "inLayer(int,int,int,int,int,int)int type(int)int clear()int area()int inside()int covers(int,int)int "
        + "found(int)int mow()int odds(int,int,int,int,int,int)int part(int)long image(int)int from(int)int "
        + "status(int)int size(int)int digest()long";
    private static final Set<Tree.Kind> FORBIDDEN = EnumSet.of(Tree.Kind.LAMBDA_EXPRESSION, Tree.Kind.MEMBER_REFERENCE,
        Tree.Kind.THROW, Tree.Kind.TRY, Tree.Kind.CATCH, Tree.Kind.SYNCHRONIZED, Tree.Kind.ASSERT, Tree.Kind.ANNOTATION,
        Tree.Kind.IMPORT, Tree.Kind.PACKAGE);
    // The class uses less than the rules leave: what is not here is looked up in the rules before it is added.
    private static final String TYPES = "void|boolean|(int|long)(\\[])?|PointLayers\\.\\w+(\\[])?";
    private static final Set<String> LIBRARY = Set.of("System.arraycopy", "Integer.bitCount", "Math.max", "Math.abs");
    private static final Due D = new Due();

    public static void main(String[] args) throws IOException {
        face();
        classes();
        source(Files.readString(SOURCE));
        tree(new Source(SOURCE));
        room();
        neverThrows();
        D.end();
    }

    private static void face() {
        D.promise("rule 1");
        Set<String> due = new TreeSet<>(Arrays.asList(FACE.split(" ")));
        Set<String> is = new TreeSet<>();
        for (Method m : PointLayers.class.getDeclaredMethods()) {
            if (Modifier.isPublic(m.getModifiers())) {
                List<String> types = new ArrayList<>();
                Arrays.stream(m.getParameterTypes()).forEach(t -> types.add(t.getName()));
                is.add(m.getName() + "(" + String.join(",", types) + ")" + m.getReturnType().getName());
            }
        }
        D.holds("the face " + is, is.equals(due));
        D.holds("final", Modifier.isFinal(PointLayers.class.getModifiers()));
        D.due("NONE", PointLayers.NONE, -2000000001);
        D.due("BAD", PointLayers.BAD, -2000000002);
        D.due("NO", PointLayers.NO, -2000000003);
        D.due("FULL", PointLayers.FULL, -2000000004);
        List<Member> members = new ArrayList<>(Arrays.asList(PointLayers.class.getDeclaredMethods()));
        members.addAll(Arrays.asList(PointLayers.class.getDeclaredFields()));
        for (Member m : members) {
            boolean named = due.stream().anyMatch(call -> call.startsWith(m.getName() + "("));
            boolean constant = Set.of("NONE", "BAD", "NO", "FULL").contains(m.getName());
            boolean open = m instanceof Method ? named : constant;
            D.holds("public or private: " + m.getName(),
                open ? Modifier.isPublic(m.getModifiers()) : Modifier.isPrivate(m.getModifiers()));
        }
    }

    private static void classes() {
        D.promise("rules 1, 2, 5, 11");
        Class<?>[] inside = PointLayers.class.getDeclaredClasses();
        D.holds("twelve classes at most", inside.length <= 11);
        Set<String> names = new TreeSet<>();
        for (String call : FACE.split(" ")) {
            names.add(call.substring(0, call.indexOf('(')));
        }
        for (Class<?> c : inside) {
            D.holds(c + " is static", Modifier.isStatic(c.getModifiers()));
            for (Method m : c.getDeclaredMethods()) {
                D.holds(c + " " + m.getName() + " bears no name of the face", !names.contains(m.getName()));
            }
            fieldsAndParameters(c);
        }
        fieldsAndParameters(PointLayers.class);
    }

    private static void fieldsAndParameters(Class<?> c) {
        int fields = 0;
        for (Field f : c.getDeclaredFields()) {
            if (Modifier.isStatic(f.getModifiers())) {
                D.holds(f + " is final", Modifier.isFinal(f.getModifiers()));
            } else {
                fields++;
            }
        }
        D.holds(c + " has twenty fields at most", fields <= 20);
        for (Method m : c.getDeclaredMethods()) {
            D.holds(m + " takes seven at most", m.getParameterCount() <= 7);
        }
    }

    private static void source(String source) {
        D.promise("rules 3 to 6");
        String code = source.replaceAll("(?s)/\\*.*?\\*/", "").replaceAll("//[^\n]*", "");
        String[] words = {"throw", "throws", "try", "catch", "finally", "synchronized", "assert", "import", "package",
            "protected", "volatile", "transient", "native", "Object", "System\\.(?!arraycopy)\\w+", "Random", "Thread",
            "hashCode", "toString", "equals", "\\w+Exact", "float", "double", "var"};
        for (String word : words) {
            D.holds("no " + word, !Pattern.compile("\\b" + word + "\\b").matcher(code).find());
        }
        D.holds("no lambda", !code.contains("->"));
        D.holds("no method reference", !code.contains("::"));
        D.holds("plain signs alone", source.chars().allMatch(c -> c == '\n' || c >= 32 && c < 127));
        methodsAreShort(code);
    }

    private static void methodsAreShort(String code) {
        Matcher m = Pattern.compile("(?m)^( +)(?=\\w)(?:[\\w\\[\\]]+ )*(\\w+)\\([^)]*\\) \\{$").matcher(code);
        int seen = 0;
        while (m.find()) {
            int end = code.indexOf("\n" + m.group(1) + "}", m.end());
            D.holds(m.group(2) + " has an end", end >= 0);
            long lines = end < 0 ? 0 : code.substring(m.start(), end).lines().count() + 1;
            D.holds(m.group(2) + " has sixty lines at most", lines <= 60);
            seen++;
        }
        D.holds("methods were seen", seen > 60);
    }

    private static void tree(Source source) {
        D.promise("rules 2, 6");
        for (Tree.Kind kind : source.kinds) {
            D.holds("no " + kind, !FORBIDDEN.contains(kind));
        }
        D.promise("rule 3");
        for (String type : source.types) {
            D.holds("no " + type, type.matches(TYPES));
        }
        D.promise("rule 4");
        for (String call : source.fromLibrary) {
            D.holds("no " + call, LIBRARY.contains(call));
        }
        D.promise("rule 5");
        D.holds("statics " + source.statics, source.statics.equals(Set.of("final int")));
        D.holds("no blocks in " + source.blocks, source.blocks.isEmpty());
        D.promise("rule 8");
        for (String method : source.calls.keySet()) {
            D.holds(method + " carries its depth",
                !source.isRecursive(method) || source.parameters.get(method).contains("depth"));
        }
        D.holds("a recursion was seen", source.isRecursive("Reader.readSpot"));
        D.promise("rule 9");
        D.holds("each loop counts, but not in " + source.endless, source.endless.isEmpty());
        D.promise("rule 11");
        for (String method : source.calls.keySet()) {
            D.holds(method + " goes eight deep at most", source.deepest(method) <= 8);
        }
        D.due("the deepest that was seen", source.deepest("PointLayers.area"), 8);
        D.promise("rule 12");
        D.holds("made by constructors alone: " + source.makers,
            source.makers.stream().allMatch(method -> method.endsWith(".<init>")));
    }

    /** Whatever is asked, far more often than is promised; and what is asked twice is answered alike. */
    private static void neverThrows() {
        D.promise("rules 7, 13");
        Random random = new Random(7);
        List<Method> calls = new ArrayList<>(Arrays.asList(PointLayers.class.getDeclaredMethods()));
        calls.removeIf(m -> !Modifier.isPublic(m.getModifiers()));
        calls.sort(Comparator.comparing(Method::getName));
        for (int range : new int[] {3, 70, 600, Integer.MAX_VALUE}) {
            PointLayers p = new PointLayers();
            PointLayers twin = new PointLayers();
            for (int i = 0; i < 20000; i++) {
                Method call = calls.get(random.nextInt(calls.size()));
                Object[] given = new Object[call.getParameterCount()];
                Arrays.setAll(given, j -> any(random, range));
                D.holds(call.getName() + Arrays.toString(given), answer(p, call, given).equals(answer(twin, call, given)));
            }
        }
    }

    private static Integer any(Random random, int range) {
        int[] ends = {0, -1, 1, 500, -500, 501, -501, Integer.MAX_VALUE, Integer.MIN_VALUE};
        int signs = "[]0123456789,+-&!();".charAt(random.nextInt(20));
        return switch (random.nextInt(5)) {
            case 0 -> ends[random.nextInt(ends.length)];
            case 1 -> signs;
            default -> range == Integer.MAX_VALUE ? random.nextInt() : random.nextInt(2 * range + 1) - range;
        };
    }

    private static Object answer(PointLayers p, Method call, Object[] given) {
        try {
            return call.invoke(p, given);
        } catch (ReflectiveOperationException e) {
            D.holds(call.getName() + Arrays.toString(given) + " threw " + e.getCause(), false);
            return "threw";
        }
    }

    /** A run of calls of every kind makes nothing: all rows are made with the object. */
    private static void room() {
        D.promise("rule 12");
        var bean = (com.sun.management.ThreadMXBean) ManagementFactory.getThreadMXBean();
        PointLayers p = new PointLayers();
        everyCall(p);
        long ahead = bean.getCurrentThreadAllocatedBytes();
        for (int i = 0; i < 9; i++) {
            everyCall(p);
        }
        long made = bean.getCurrentThreadAllocatedBytes() - ahead;
        D.holds("calls make no objects, but made " + made, made < 4096);
        int[] has = new int[2];
        measure(p, has);
        D.holds("512 objects have room, each of " + has[0], 512 * has[0] <= 600_000);
        D.holds("512 objects have room, each with elements " + has[1], 512 * has[1] <= 7_300_000);
        D.holds("all of an object was seen", has[0] > 50 && has[1] > 5000);
    }

    /** Objects and arrays (0), fields and elements (1) of a thing; each is held once. */
    private static void measure(Object thing, int[] has) {
        has[0]++;
        if (thing.getClass().isArray()) {
            has[1] += Array.getLength(thing);
            for (int i = 0; i < Array.getLength(thing) && thing instanceof Object[] row; i++) {
                measure(row[i], has);
            }
            return;
        }
        for (Field f : thing.getClass().getDeclaredFields()) {
            if (!Modifier.isStatic(f.getModifiers())) {
                has[1]++;
                f.setAccessible(true);
                if (!f.getType().isPrimitive()) {
                    measure(valueOf(f, thing), has);
                }
            }
        }
    }

    private static Object valueOf(Field f, Object thing) {
        try {
            return f.get(thing);
        } catch (IllegalAccessException e) {
            throw new IllegalStateException(e);
        }
    }

    private static void everyCall(PointLayers p) {
        p.scatter(5, 30);
        p.move(p.nth(0), p.put(1, 2, 3) % 500, 5);
        p.take(p.nth(1));
        p.counter(p.of(p.nth(0), 3) % 6);
        p.image(0);
        p.sweep(-300, 300, -300, 300);
        p.undo();
        p.count(-9, 9, -9, 9);
        p.many(-9, 9, -9, 9);
        p.kth(-500, 500, -500, 500, 3);
        p.half(-500, 500, -500, 500);
        p.below(9, 9);
        p.ring(0, 0, 9);
        p.near(0, 0);
        p.strip(0);
        p.square(99, 0);
        p.pairs();
        p.stair(1);
        p.layers(0);
        p.inLayer(8, 0, -500, 500, -500, 500);
        p.clear();
        Due.write(p, "!([-9,9,-9,9]+[0,400,0,400]&[2,3,4,5]);");
        p.area();
        p.inside();
        p.covers(1, 1);
        p.found(1);
        p.mow();
        p.odds(0, 50, 0, 50, 2, 3);
        p.part(0);
        p.from(0);
        p.status(0);
        p.size(0);
        p.digest();
        p.sweep(-500, 500, -500, 500);
    }
}
