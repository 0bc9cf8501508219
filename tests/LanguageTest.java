import java.lang.management.ManagementFactory;
import java.lang.reflect.Constructor;
import java.lang.reflect.Field;
import java.lang.reflect.Method;
import java.lang.reflect.Modifier;
import java.nio.file.Files;
import java.nio.file.Path;
import java.util.List;
import java.util.Set;
import java.util.TreeSet;
import java.util.regex.Matcher;
import java.util.regex.Pattern;

/** What can be seen from outside of the language that the program keeps to: its face, its words, its size, its room. */
public final class LanguageTest {
    private static final Path SOURCE = Path.of("src/main/java/PaintedGods.java");
    private static final List<String> FACE = List.of(
            "int stuff(int, int, int, int)", "int put(int, int)", "int habit(int, int)", "int trace(int, int, int)",
            "int aside(int, boolean)", "int copy(int, int)", "int type(long, int)", "int clear()", "int statue()",
            "int left(int, int, int)", "int shines(int, int, int)", "int fits(int, int)", "int odds(int, int)",
            "int above(int)", "int likeliest(int, int)", "int stood(int)", "int span(int, int)", "int later(int)",
            "int next()", "int rests(int)", "int resting(int, int)", "int bright(int, int)", "int sign(int)",
            "int limb(int, int)", "int image(int)", "int from(int)", "int status(int)", "int count(int)",
            "long digest()");

    private static int wrong = 0;

    private static void need(boolean is, String what) {
        if (!is) {
            wrong++;
            System.out.println(what);
        }
    }

    private static String shown(Method m) {
        StringBuilder types = new StringBuilder();
        for (Class<?> type : m.getParameterTypes()) {
            types.append(types.length() == 0 ? "" : ", ").append(type);
        }
        return m.getReturnType() + " " + m.getName() + "(" + types + ")";
    }

    private static void face() {
        Class<?> c = PaintedGods.class;
        need(Modifier.isPublic(c.getModifiers()) && Modifier.isFinal(c.getModifiers()), "1 the class is public and final");
        Set<String> open = new TreeSet<>();
        Set<String> names = new TreeSet<>();
        for (Method m : c.getDeclaredMethods()) {
            if (!Modifier.isPrivate(m.getModifiers())) {
                need(Modifier.isPublic(m.getModifiers()), "1 " + m + " is neither public nor private");
                open.add(shown(m));
                names.add(m.getName());
            }
        }
        need(open.equals(new TreeSet<>(FACE)), "1 the face is " + open);
        Set<String> constants = new TreeSet<>();
        for (Field f : c.getDeclaredFields()) {
            if (!Modifier.isPrivate(f.getModifiers())) {
                constants.add(Modifier.toString(f.getModifiers()) + " " + f.getType() + " " + f.getName());
            }
        }
        Set<String> due = new TreeSet<>();
        for (String name : List.of("NONE", "BAD", "NO", "FULL")) {
            due.add("public static final int " + name);
        }
        need(constants.equals(due), "1 the constants are " + constants);
        Constructor<?>[] made = c.getDeclaredConstructors();
        need(made.length == 1 && made[0].getParameterCount() == 0, "1 there is one constructor");
        inside(c, names);
        for (Class<?> nested : c.getDeclaredClasses()) {
            need(Modifier.isStatic(nested.getModifiers()), "2 " + nested + " is static");
            inside(nested, names);
        }
        need(c.getDeclaredClasses().length < 12, "11 some twelve classes");
    }

    private static void inside(Class<?> c, Set<String> publicNames) {
        int fields = 0;
        for (Field f : c.getDeclaredFields()) {
            boolean isStatic = Modifier.isStatic(f.getModifiers());
            fields += isStatic ? 0 : 1;
            need(!isStatic || Modifier.isFinal(f.getModifiers()), "5 " + f + " is final");
        }
        need(fields <= 20, "11 " + c + " has " + fields + " fields");
        for (Method m : c.getDeclaredMethods()) {
            need(c == PaintedGods.class && Modifier.isPublic(m.getModifiers()) || !publicNames.contains(m.getName()),
                    "1 " + m + " bears the name of a public method");
            need(m.getParameterCount() <= 7, "11 " + m + " has too many parameters");
        }
    }

    private static void words() throws Exception {
        String source = Files.readString(SOURCE);
        need(source.chars().allMatch(s -> s == '\n' || s >= 32 && s < 127), "4 signs 1 to 127 alone");
        String code = source.replaceAll("(?s)/\\*.*?\\*/", "").replaceAll("//[^\n]*", "");
        for (String word : List.of("throw", "throws", "try", "catch", "finally", "synchronized", "assert", "import",
                "package", "native", "volatile", "float", "double", "hashCode", "toString", "Object", "Thread",
                "Random", "goto", "strictfp", "transient", "protected")) {
            need(!Pattern.compile("\\b" + word + "\\b").matcher(code).find(), "6 the word " + word);
        }
        for (String sign : List.of("->", "::", "Exact(", "getClass", "@")) {
            need(!code.contains(sign), "2 the sign " + sign);
        }
        Matcher m = Pattern.compile("\\b([A-Z][A-Za-z]*)\\.([a-z][A-Za-z]*)\\(").matcher(code);
        List<String> library = List.of("Math.max", "Math.min", "Math.abs", "Integer.bitCount", "System.arraycopy",
                "WORDS.length", "WORDS.charAt");
        while (m.find()) {
            need(library.contains(m.group(1) + "." + m.group(2)), "4 " + m.group());
        }
        int since = 0;
        String[] lines = source.split("\n");
        for (int i = 0; i < lines.length; i++) {
            need(lines[i].length() <= 120, "line " + (i + 1) + " is long");
            since = lines[i].matches(" {4}( {4})?[^ ].*\\) \\{") ? i : since;
            need(!lines[i].matches(" {4}( {4})?}") || i - since <= 60 || lines[i].startsWith("    }"),
                    "11 the method that ends in line " + (i + 1) + " is long");
        }
    }

    private static long taken() {
        return ((com.sun.management.ThreadMXBean) ManagementFactory.getThreadMXBean())
                .getThreadAllocatedBytes(Thread.currentThread().getId());
    }

    private static long askAll(PaintedGods x) {
        long answers = 0;
        for (int cell = 0; cell < 48; cell += 16) {
            answers += x.odds(cell, 1) + x.above(cell) + x.rests(cell) + x.fits(cell, 1) + x.left(cell, 1, 0);
            answers += x.bright(cell, 2) + x.shines(cell, 1, 0);
        }
        for (int hem = 0; hem < 6; hem++) {
            answers += x.likeliest(hem, 7) + x.later(hem) + x.resting(hem, 1);
        }
        answers += x.clear() + x.type(0x79656172733B20L, 7) + x.statue() + x.clear() + x.type(0x746F6F3B, 4);
        answers += x.statue() + x.image(0) + x.from(0) + x.stuff(3, 3, 3, 3) + x.trace(1, 4, 9) + x.copy(1, 0);
        return answers + x.stood(1) + x.span(0, 1) + x.next() + x.sign(1) + x.limb(0, 0) + x.count(2) + x.digest();
    }

    /** No call makes an object, so that all calls of a run have room: what the object itself holds is all. */
    private static void room() {
        PaintedGods warm = new PaintedGods();
        long answers = 0;
        for (int i = 0; i < 3; i++) {
            answers += askAll(warm);
        }
        taken();
        long before = taken();
        PaintedGods x = new PaintedGods();
        long made = taken() - before;
        for (int i = 0; i < 10; i++) {
            answers += askAll(x);
        }
        long all = taken() - before;
        need(made < 60000, "12 a new object takes " + made + " bytes");
        need(all - made < 4096, "12 the calls take " + (all - made) + " bytes more, answering " + answers);
    }

    public static void main(String[] args) throws Exception {
        face();
        words();
        room();
        System.out.println(wrong == 0 ? "the language is kept" : wrong + " rules are not kept");
        if (wrong != 0) {
            System.exit(1);
        }
    }
}
