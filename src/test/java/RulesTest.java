import java.io.IOException;
import java.lang.management.ManagementFactory;
import java.lang.reflect.Array;
import java.lang.reflect.Constructor;
import java.lang.reflect.Executable;
import java.lang.reflect.Field;
import java.lang.reflect.Member;
import java.lang.reflect.Method;
import java.lang.reflect.Modifier;
import java.nio.file.Files;
import java.nio.file.Path;
import java.util.ArrayList;
import java.util.Arrays;
import java.util.Collections;
import java.util.IdentityHashMap;
import java.util.List;
import java.util.Set;
import java.util.TreeSet;
import java.util.regex.Matcher;
import java.util.regex.Pattern;

/** What LANGUAGE.md asks of the class, as far as it can be seen from its text and its parts. */
public final class RulesTest {
    /** Each public method with how many numbers it takes. */
    private static final String FACE = "back4 base1 begin2 both7 change4 colour2 count1 feature2 generate3 goes6 "
        + "halves0 is3 kind0 least2 orbit2 paint3 paints4 place3 spread0 strip2 symmetry2 ways0";
    private static final String[] LEFT_OUT = {
        "throw", "throws", "try", "catch", "synchronized", "assert", "import", "package", "volatile", "native",
        "Object", "System\\.(?!arraycopy)\\w+", "\\w+Exact", "hashCode", "toString", "Random", "->", "::",
    };
    private static final int MOST_ELEMENTS = 15_000;
    private static final int MOST_LINES = 60;
    private final Check check = new Check();

    public static void main(String[] args) throws IOException {
        Path root = Path.of(args.length > 0 ? args[0] : ".");
        RulesTest test = new RulesTest();
        test.text(Files.readString(root.resolve("src/main/java/PlaneGroups.java")));
        test.face();
        test.parts();
        test.room();
        test.noCallMakesObjects();
        test.check.end("RulesTest");
    }

    private void text(String source) {
        String code = source.replaceAll("(?s)/\\*.*?\\*/", "").replaceAll("//[^\n]*", "");
        for (String word : LEFT_OUT) {
            String bounded = word.matches("\\W+") ? Pattern.quote(word) : "\\b" + word + "\\b";
            Matcher found = Pattern.compile(bounded).matcher(code);
            check.due("rules 4 and 6: places with " + word, found.results().count(), 0);
        }
        check.due("rule 9: loops without a bound", Pattern.compile("while|for \\(;;|for \\([^;]*;\\s*;").matcher(code).results().count(), 0);
        int longest = 0;
        int start = 0;
        String[] lines = source.split("\n");
        for (int i = 0; i < lines.length; i++) {
            if (lines[i].matches("( {4}| {8})(public|private|int|void|boolean|static).*\\{")) {
                start = i;
            }
            if (lines[i].matches(" {4,8}\\}") && !lines[start].contains("class")) {
                longest = Math.max(longest, i - start + 1);
                start = i;
            }
        }
        check.due("rule 11: the longest method has at most sixty lines", longest <= MOST_LINES ? 1 : 0, 1);
    }

    private void face() {
        Set<String> methods = new TreeSet<>();
        Set<String> hidden = new TreeSet<>();
        for (Method method : PlaneGroups.class.getDeclaredMethods()) {
            if (Modifier.isPrivate(method.getModifiers())) {
                hidden.add(method.getName());
                continue;
            }
            methods.add(method.getName() + method.getParameterCount());
            check.due("public " + method, Modifier.isPublic(method.getModifiers()) ? 1 : 0, 1);
            check.due("int " + method, method.getReturnType() == int.class ? 1 : 0, 1);
            check.due("no static " + method, Modifier.isStatic(method.getModifiers()) ? 1 : 0, 0);
            for (Class<?> type : method.getParameterTypes()) {
                check.due("int in " + method, type == int.class ? 1 : 0, 1);
            }
        }
        check.due("the methods " + methods, String.join(" ", methods).equals(FACE) ? 1 : 0, 1);
        for (String name : hidden) {
            check.due("rule 1: private " + name, FACE.matches(".*\\b" + name + "\\d.*") ? 1 : 0, 0);
        }
        Constructor<?>[] makers = PlaneGroups.class.getDeclaredConstructors();
        check.due("one constructor", makers.length, 1);
        check.due("it is public", Modifier.isPublic(makers[0].getModifiers()) ? 1 : 0, 1);
        check.due("it takes nothing", makers[0].getParameterCount(), 0);
        Set<String> constants = new TreeSet<>();
        for (Field field : PlaneGroups.class.getDeclaredFields()) {
            if (!Modifier.isPrivate(field.getModifiers())) {
                constants.add(field.getName());
            }
        }
        check.due("the constants " + constants, constants.equals(Set.of("NONE", "BAD", "FULL")) ? 1 : 0, 1);
        check.due("the class is public and final", PlaneGroups.class.getModifiers(), Modifier.PUBLIC | Modifier.FINAL);
    }

    private void parts() {
        List<Class<?>> all = new ArrayList<>(Arrays.asList(PlaneGroups.class.getDeclaredClasses()));
        check.due("rule 11: at most twelve classes", all.size() < 12 ? 1 : 0, 1);
        all.add(PlaneGroups.class);
        for (Class<?> part : all) {
            int own = 0;
            for (Field field : part.getDeclaredFields()) {
                own += Modifier.isStatic(field.getModifiers()) ? 0 : 1;
                check.due("rule 5: " + field, Modifier.isStatic(field.getModifiers()) && !isFinal(field) ? 1 : 0, 0);
            }
            check.due("rule 11: at most twenty fields in " + part, own <= 20 ? 1 : 0, 1);
            check.due("rule 2: static " + part, part == PlaneGroups.class || Modifier.isStatic(part.getModifiers()) ? 1 : 0, 1);
            List<Executable> calls = new ArrayList<>(Arrays.asList(part.getDeclaredMethods()));
            calls.addAll(Arrays.asList(part.getDeclaredConstructors()));
            for (Executable call : calls) {
                check.due("rule 11: at most seven parameters in " + call, call.getParameterCount() <= 7 ? 1 : 0, 1);
            }
        }
    }

    private static boolean isFinal(Member member) {
        return Modifier.isFinal(member.getModifiers());
    }

    /** Objects of a run share one room: an object may take only a small part of it. */
    private void room() {
        int elements = elementsOf(new PlaneGroups(), Collections.newSetFromMap(new IdentityHashMap<>()));
        check.due("at most " + MOST_ELEMENTS + " fields and elements, not " + elements, elements <= MOST_ELEMENTS ? 1 : 0, 1);
    }

    private int elementsOf(Object thing, Set<Object> seen) {
        if (thing == null || !seen.add(thing)) {
            return 0;
        }
        if (thing.getClass().isArray()) {
            return Array.getLength(thing);
        }
        int found = 0;
        for (Field field : thing.getClass().getDeclaredFields()) {
            if (!Modifier.isStatic(field.getModifiers())) {
                found++;
                found += field.getType().isPrimitive() ? 0 : elementsOf(valueOf(field, thing), seen);
            }
        }
        return found;
    }

    private static Object valueOf(Field field, Object thing) {
        try {
            field.setAccessible(true);
            return field.get(thing);
        } catch (IllegalAccessException unreadable) {
            throw new IllegalStateException(unreadable);
        }
    }

    private void noCallMakesObjects() {
        com.sun.management.ThreadMXBean threads = (com.sun.management.ThreadMXBean) ManagementFactory.getThreadMXBean();
        for (int sort = 0; sort < 2; sort++) {
            callAll(new PlaneGroups(), sort);
        }
        PlaneGroups squares = new PlaneGroups();
        PlaneGroups triangles = new PlaneGroups();
        long id = Thread.currentThread().getId();
        threads.getThreadAllocatedBytes(id);
        long before = threads.getThreadAllocatedBytes(id);
        int calls = callAll(squares, 0) + callAll(triangles, 1);
        long made = threads.getThreadAllocatedBytes(id) - before;
        check.due("room of " + calls + " calls: " + made + " bytes", made < 1000 ? 1 : 0, 1);
    }

    private static int callAll(PlaneGroups x, int sort) {
        int calls = 0;
        for (int n = 1; n <= 12; n++) {
            x.begin(sort, n);
            x.paint(0, 0, 1);
            x.paints(1, 1, 9, 121212);
            x.generate(1, 1, 1);
            x.generate(5, 0, 1);
            x.spread();
            for (int what = 0; what <= 10; what++) {
                x.count(what);
            }
            x.goes(1, 2, 3, 4, 5, 1);
            x.both(1, 2, 3, 4, 5, 6, 1);
            x.back(1, 2, 3, 1);
            x.is(1, 2, 3);
            x.symmetry(3, 2);
            x.base(1);
            x.change(1, 1, 1, 1);
            x.ways();
            x.least(1, 1);
            x.orbit(1, 1);
            x.place(3, 3, 1);
            x.feature(1, 2);
            x.kind();
            x.strip(0, 1);
            x.halves();
            x.colour(1, 1);
            calls += 33;
        }
        return calls;
    }
}
