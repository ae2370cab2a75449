import java.lang.management.ManagementFactory;
import java.lang.reflect.Constructor;
import java.lang.reflect.Field;
import java.lang.reflect.Method;
import java.lang.reflect.Modifier;
import java.nio.file.Files;
import java.nio.file.Path;
import java.util.Set;
import java.util.TreeSet;
import java.util.regex.Matcher;
import java.util.regex.Pattern;

/** The rules of LANGUAGE.md that the source or the class shows, the face, and what a run makes. */
public final class RulesTest {
    private static final String FACE = """
        int status()
        long top()
        long bottom()
        int feed(int,int,int,int,int)
        int load(int)
        int fault(int)
        int many(int)
        int way(int,int)
        int square(int,int,int,int)
        boolean near(int,int,int,int)
        int nearest(int,int,int)
        int farthest(int,int)
        int meets(int,int,int)
        int bends(int,int)
        int free(int,int,boolean,int,int,int,int,int)
        int low(int,int,boolean,int,int,int,int)
        int sides(int,int,int,int,int)
        int enough(int,int,int,int,int)
        boolean shortest(int,int,int)
        int criticals(int,int,int)
        boolean critical(int,int,int)
        int walk(int,int,int,int,int,boolean)
        int hops(int,int,int,boolean)
        int sums(int,int,int)
        int reach(int,int,int,int,int)
        int piece(int,int,int)
        boolean pieces(int,int)
        int ring(int,int)
        int thinned(int,int,int,int)
        int kin(int)
        int middle()
        int groups(int,int,int)
        boolean without(int,int,int)
        boolean turned(int,int,int)
        int print()
        int out(int)
        int move(int,int,int,int)
        int add(int,int,int,int)
        int drop(int,int)
        int turn(int)
        int undo()
        """;

    private RulesTest() {
    }

    public static void main(String[] args) throws Exception {
        theFace();
        theSource(Files.readString(Path.of("src/main/java/TwoLeash.java")));
        nothingIsMadeByCalls();
        Checks.end();
    }

    private static void theFace() {
        Set<String> due = new TreeSet<>(FACE.lines().toList());
        Set<String> names = new TreeSet<>();
        for (Method method : TwoLeash.class.getDeclaredMethods()) {
            if (Modifier.isPublic(method.getModifiers())) {
                StringBuilder told = new StringBuilder(method.getReturnType() + " " + method.getName() + "(");
                for (Class<?> type : method.getParameterTypes()) {
                    told.append(told.charAt(told.length() - 1) == '(' ? "" : ",").append(type);
                }
                Checks.due("public " + told, due.remove(told.append(')').toString()), true);
                names.add(method.getName());
            } else {
                Checks.due("private " + method, Modifier.isPrivate(method.getModifiers()), true);
            }
        }
        Checks.due("missing " + due, due.size(), 0);
        for (Constructor<?> made : TwoLeash.class.getDeclaredConstructors()) {
            Checks.due("constructor", Modifier.isPublic(made.getModifiers()) && made.getParameterCount() == 0, true);
        }
        for (Field field : TwoLeash.class.getDeclaredFields()) {
            boolean constant = field.getName().equals("NONE") && Modifier.isPublic(field.getModifiers());
            Checks.due("field " + field, constant || Modifier.isPrivate(field.getModifiers()), true);
            Checks.due("static is final " + field, !isChangingStatic(field), true);
        }
        int classes = 1;
        for (Class<?> inside : TwoLeash.class.getDeclaredClasses()) {
            classes++;
            int open = Modifier.PUBLIC | Modifier.PROTECTED;
            Checks.due("static " + inside, Modifier.isStatic(inside.getModifiers()), true);
            Checks.due("not public " + inside, inside.getModifiers() & open, 0);
            for (Method method : inside.getDeclaredMethods()) {
                Checks.due("a public call's name: " + method, names.contains(method.getName()), false);
            }
            for (Field field : inside.getDeclaredFields()) {
                Checks.due("static is final " + field, !isChangingStatic(field), true);
            }
            Checks.due("fields of " + inside, fieldsOf(inside) <= 20, true);
        }
        Checks.due("fields", fieldsOf(TwoLeash.class) <= 20, true);
        Checks.due("classes", classes <= 12, true);
    }

    private static int fieldsOf(Class<?> type) {
        int fields = 0;
        for (Field field : type.getDeclaredFields()) {
            fields += Modifier.isStatic(field.getModifiers()) ? 0 : 1;
        }
        return fields;
    }

    private static boolean isChangingStatic(Field field) {
        return Modifier.isStatic(field.getModifiers()) && !Modifier.isFinal(field.getModifiers());
    }

    private static void theSource(String source) {
        String code = source.replaceAll("(?s)/\\*.*?\\*/", "").replaceAll("//[^\n]*", "");
        String[] words = {"throw", "throws", "try", "catch", "finally", "synchronized", "assert", "import", "package",
            "double", "float", "native", "var", "interface\\s*\\(", "->", "::", "\\w+Exact", "hashCode", "toString"};
        for (String word : words) {
            boolean sign = word.startsWith("-") || word.startsWith(":");
            Checks.due("no " + word, Pattern.compile(sign ? word : "\\b" + word).matcher(code).find(), false);
        }
        Matcher calls = Pattern.compile("\\b(Math|Integer|Long|System|Arrays)\\.(\\w+)").matcher(code);
        Set<String> allowed = Set.of("Math.max", "Math.min", "Math.abs", "Integer.compare", "Integer.signum",
            "Integer.bitCount", "Long.compare", "Long.signum", "System.arraycopy");
        while (calls.find()) {
            Checks.due("library " + calls.group(), allowed.contains(calls.group()), true);
        }
        methodsStayShort(code);
        for (int i = 0; i < source.length(); i++) {
            char sign = source.charAt(i);
            Checks.due("sign " + (int) sign, sign == 10 || sign >= 32 && sign < 127, true);
        }
    }

    private static void methodsStayShort(String code) {
        Matcher heads = Pattern.compile("\n( +)(?:[a-z]+ )*[\\w\\[\\]]+ (\\w+)\\(([^()]*)\\) \\{\n").matcher(code);
        int seen = 0;
        while (heads.find()) {
            String name = heads.group(2);
            int end = code.indexOf("\n" + heads.group(1) + "}\n", heads.start() + 1);
            long lines = code.substring(heads.start() + 1, end).lines().count() + 1;
            Checks.due("lines of " + name + ": " + lines, lines <= 60, true);
            Checks.due("parameters of " + name, heads.group(3).split(",").length <= (name.equals("free") ? 8 : 7), true);
            seen++;
        }
        Checks.due("methods were seen", seen > 100, true);
    }

    /** All rows are made by the constructor: the calls that do most leave nothing behind. */
    private static void nothingIsMadeByCalls() {
        String eight = " 0 0 17 3 2 9 18 18 4 1 7 16 3 3 0 0;";
        TwoLeash x = Checks.loaded("way a" + eight + "way b 1 1 16 4 3 8 17 17 5 2 8 15 4 4 1 1;way c 0 0 9 9;way d 1 0 2 0;");
        int[] feed = {0x77617920, 0x61203020, 0x30203120, 0x323b2020, 0x20202020};
        com.sun.management.ThreadMXBean bean = (com.sun.management.ThreadMXBean) ManagementFactory.getThreadMXBean();
        callAll(x, feed);
        long before = bean.getCurrentThreadAllocatedBytes();
        callAll(x, feed);
        long made = bean.getCurrentThreadAllocatedBytes() - before;
        Checks.due("bytes made by calls: " + made, made < 1000, true);
    }

    private static void callAll(TwoLeash x, int[] f) {
        for (int n = 0; n < 4; n++) {
            x.pieces(0, 1);
            x.ring(0, 1);
            x.middle();
            x.kin(n);
            x.thinned(0, 40, 3, n % 2);
            x.groups(n, 30, 1);
            x.criticals(0, 1, 1);
            x.walk(0, 1, 90, 1, n, true);
            x.sums(0, 1, n);
            x.hops(0, 1, n, true);
            x.meets(0, 1, 0);
            x.turned(0, 1, 0);
            x.without(0, 1, 1);
            x.farthest(0, 1);
            x.print();
            x.move(0, 1, 5, n);
            x.turn(1);
            x.undo();
            x.undo();
            x.feed(f[0], f[1], f[2], f[3], f[4]);
        }
    }
}
