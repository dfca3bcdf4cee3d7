import java.io.IOException;
import java.lang.reflect.Constructor;
import java.lang.reflect.Field;
import java.lang.reflect.Method;
import java.lang.reflect.Modifier;
import java.nio.file.Files;
import java.nio.file.Path;
import java.util.Arrays;
import java.util.List;
import java.util.Set;
import java.util.TreeSet;
import java.util.regex.Matcher;
import java.util.regex.Pattern;
import java.util.stream.Collectors;
import java.util.stream.Stream;

/** The class keeps to the document's face, and to what can be looked at of LANGUAGE.md. */
final class RulesTest {
    private static final Checks CHECKS = new Checks("RulesTest");

    private static Set<String> documentFace() throws IOException {
        String doc = Files.readString(Path.of("..", "shared", "DOC.md"));
        Set<String> face = new TreeSet<>();
        Matcher call = Pattern.compile("    public (int|long) (\\w+)\\(([^)]*)\\);").matcher(doc);
        while (call.find()) {
            String types = Arrays.stream(call.group(3).split(", ")).map(part -> part.split(" ")[0])
                .collect(Collectors.joining(","));
            face.add(call.group(1) + " " + call.group(2) + "(" + types + ")");
        }
        return face;
    }

    private static boolean isHidden(int modifiers) {
        return Modifier.isPrivate(modifiers);
    }

    private static void face() throws IOException {
        Set<String> face = new TreeSet<>();
        Set<String> names = new TreeSet<>();
        Set<String> hidden = new TreeSet<>();
        for (Method method : HairAtATime.class.getDeclaredMethods()) {
            String types = Arrays.stream(method.getParameterTypes()).map(Class::getName)
                .collect(Collectors.joining(","));
            if (isHidden(method.getModifiers())) {
                hidden.add(method.getName());
            } else {
                face.add(method.getReturnType() + " " + method.getName() + "(" + types + ")");
                names.add(method.getName());
                CHECKS.holds(method + " is public, and no more", Modifier.toString(method.getModifiers()).equals("public"));
            }
        }
        CHECKS.due("how many calls", 35, face.size());
        CHECKS.holds("the calls are the document's: " + face, face.equals(documentFace()));
        hidden.retainAll(names);
        CHECKS.holds("no private method bears a public one's name: " + hidden, hidden.isEmpty());
        Set<String> fields = new TreeSet<>();
        for (Field field : HairAtATime.class.getDeclaredFields()) {
            if (!isHidden(field.getModifiers())) {
                fields.add(field.getType() + " " + field.getName());
                CHECKS.holds(field + " is a constant", Modifier.toString(field.getModifiers())
                    .equals("public static final"));
            }
        }
        CHECKS.holds("the constants: " + fields, fields.equals(
            Set.of("int NONE", "int BAD", "int STATE", "int FULL", "long NO")));
        Constructor<?>[] made = HairAtATime.class.getDeclaredConstructors();
        CHECKS.holds("one constructor", made.length == 1 && made[0].getParameterCount() == 0);
        CHECKS.holds("it is public", Modifier.isPublic(made[0].getModifiers()));
        CHECKS.due("no class above it", 1, HairAtATime.class.getSuperclass() == Object.class ? 1 : 0);
        CHECKS.due("no interfaces", 0, HairAtATime.class.getInterfaces().length);
        CHECKS.holds("public and final", Modifier.toString(HairAtATime.class.getModifiers()).equals("public final"));
    }

    private static void classes() {
        Class<?>[] inside = HairAtATime.class.getDeclaredClasses();
        CHECKS.holds("some twelve classes", inside.length <= 12);
        for (Class<?> one : inside) {
            CHECKS.holds(one + " is static and private", Modifier.isStatic(one.getModifiers())
                && isHidden(one.getModifiers()));
            long fields = Arrays.stream(one.getDeclaredFields())
                .filter(field -> !Modifier.isStatic(field.getModifiers())).count();
            CHECKS.holds(one + " has some twenty fields", fields <= 20);
            members(one);
        }
        members(HairAtATime.class);
    }

    /** Static fields are final, of the types that may be; a method takes at most seven parameters. */
    private static void members(Class<?> one) {
        Set<Class<?>> types = Set.of(int.class, long.class, boolean.class, char.class, String.class, int[].class,
            long[].class, char[].class, byte[].class);
        for (Field field : one.getDeclaredFields()) {
            if (Modifier.isStatic(field.getModifiers())) {
                CHECKS.holds(field + " is final", Modifier.isFinal(field.getModifiers()));
                CHECKS.holds(field + " is a constant", types.contains(field.getType()));
            }
        }
        for (Method method : one.getDeclaredMethods()) {
            CHECKS.holds(method + " takes at most seven", method.getParameterCount() <= 7);
        }
        CHECKS.holds(one + " holds numbers, texts and classes of its own alone", Stream.of(one.getDeclaredFields())
            .allMatch(field -> isAllowed(field.getType())));
    }

    private static boolean isAllowed(Class<?> type) {
        Class<?> of = type.isArray() ? type.getComponentType() : type;
        return of.isPrimitive() || of == String.class || of.getEnclosingClass() == HairAtATime.class;
    }

    private static void source() throws IOException {
        List<String> lines = Files.readAllLines(Path.of("src", "main", "java", "HairAtATime.java"));
        String code = String.join("\n", lines).replaceAll("/\\*(?s:.*?)\\*/", "").replaceAll("//.*", "");
        String[] never = {"throw", "throws", "try", "catch", "synchronized", "assert", "import", "package", "var",
            "Object", "Exception", "System\\.(?!arraycopy)\\w+", "\\w+Exact", "equals", "hashCode", "toString", "double",
            "float", "while", "new (?!int|long|byte|char|boolean|[A-Z])\\w+"};
        for (String word : never) {
            Matcher found = Pattern.compile("\\b" + word + "\\b").matcher(code);
            CHECKS.holds("no " + word, !found.find());
        }
        CHECKS.holds("no lambda, no method reference", !code.contains("->") && !code.contains("::"));
        CHECKS.holds("signs 1 to 127", code.chars().allMatch(sign -> sign > 0 && sign < 128));
        int begun = 0;
        for (int i = 0; i < lines.size(); i++) {
            if (lines.get(i).matches(" {4}(    )?\\S.*\\) \\{")) {
                begun = i;
            }
            if (lines.get(i).matches(" {4}(    )?\\}")) {
                CHECKS.holds("short: " + lines.get(begun), i - begun <= 60);
                begun = i;
            }
        }
    }

    /** Rows are made once: calls make nothing. */
    private static void room() {
        if (!(java.lang.management.ManagementFactory.getThreadMXBean()
            instanceof com.sun.management.ThreadMXBean)) {
            return;
        }
        com.sun.management.ThreadMXBean meter =
            (com.sun.management.ThreadMXBean) java.lang.management.ManagementFactory.getThreadMXBean();
        callAll(new HairAtATime());
        HairAtATime x = new HairAtATime();
        long before = meter.getCurrentThreadAllocatedBytes();
        callAll(x);
        long behind = meter.getCurrentThreadAllocatedBytes();
        HairAtATime y = new HairAtATime();
        long made = meter.getCurrentThreadAllocatedBytes() - behind;
        CHECKS.due("of a new object", 0, y.count(0));
        CHECKS.holds("calls make next to nothing: " + (behind - before), behind - before < 4000);
        CHECKS.holds("a new object is small: " + made, made < 40000);
    }

    private static void callAll(HairAtATime x) {
        byte[] text = "warm 9 !(p<3|c=2)&l=0;rain 3".getBytes();
        for (int i = 0; i < 6; i++) {
            x.head(i + 1, i, 10 * i);
            for (byte sign : text) {
                x.feed(sign);
            }
            x.theatre();
            x.see(i, 0, 10);
            x.plan(i % 4, i);
            x.book(i, 9);
            x.tape(i, 2, 60);
            for (int c = 0; c < 8; c++) {
                x.knot(i, c, c, 1 + c);
                x.item(i, c, c);
            }
            x.shift(i, 0, 0, 3, 9);
            x.judge(i, 0);
            x.image();
            for (int what = 0; what < 28; what++) {
                x.of(i, what);
                x.on(what, 10 + i);
            }
            x.mix(i, 1, 4, -1);
            x.inTime(2);
            x.can(i, 0, 0);
            x.can(i, 1, 1);
            x.odds(i, 0, 1);
            x.mean(1, 0);
            x.ends(1);
            x.looked();
            x.wrong();
            x.act(i, 2, 7);
            x.trace(3);
            x.taken(i, 3);
            x.pass(1);
            x.undo();
        }
    }

    public static void main(String[] args) throws IOException {
        face();
        classes();
        source();
        room();
        CHECKS.end();
    }
}
