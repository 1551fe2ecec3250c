import java.lang.management.ManagementFactory;
import java.lang.reflect.Field;
import java.lang.reflect.Method;
import java.lang.reflect.Modifier;
import java.nio.file.Files;
import java.nio.file.Path;
import java.util.ArrayList;
import java.util.List;
import java.util.TreeSet;
import java.util.regex.Matcher;
import java.util.regex.Pattern;

/** The public face, what LANGUAGE.md forbids, and that calls make no objects. */
public final class FaceTest {
    private static final String[] FACE = {
        "int blocks(int)", "int data(int,int,int)", "int flip(int,int,int)", "int lots(int,int)", "int read(int,int)",
        "int rule(int)", "int bit(int,int,int,int)", "int row(int,int,int)", "long block(int)", "int word(int,int,int)",
        "int mend(int,int)", "int turn(int,int)", "int window(int,int,int)", "int slide(int,int)", "int undo()",
        "int back()", "int settle()", "int journal(int)", "int stall(int)", "int piece(int,int)",
        "int around(int,int,int)", "int would(int,int,int)", "int best(int)", "int sheet(int,int,int)", "int lose(int)",
        "int put(int,int,int,int)", "long get(int,int)", "int copy(int,int,int,int,int)", "int write(int,int)",
        "int count(int)", "long digest()"};
    private static final String[] FORBIDDEN = {
        "\\bthrow\\b", "\\btry\\b", "\\bcatch\\b", "\\bsynchronized\\b", "\\bassert\\b", "->", "::", "\\bpackage\\b",
        "\\bvar\\b", "\\bObject\\b", "\\bprotected\\b", "Exact\\b", "\\bnew \\w+\\[[^]]*\\]\\[", "static \\{"};

    private static String told(Method m) {
        StringBuilder text = new StringBuilder(m.getReturnType() + " " + m.getName() + "(");
        for (Class<?> type : m.getParameterTypes()) {
            text.append(text.charAt(text.length() - 1) == '(' ? "" : ",").append(type);
        }
        return text.append(")").toString();
    }

    private static void methods() {
        TreeSet<String> want = new TreeSet<>(List.of(FACE));
        TreeSet<String> names = new TreeSet<>();
        TreeSet<String> got = new TreeSet<>();
        for (Method m : StairCodes.class.getDeclaredMethods()) {
            if (!Modifier.isPrivate(m.getModifiers())) {
                got.add(told(m));
                names.add(m.getName());
                Due.is(m + " is public and not static", m.getModifiers(), Modifier.PUBLIC);
            }
        }
        Due.is("the face is " + got, got.equals(want) ? 1 : 0, 1);
        List<Class<?>> all = new ArrayList<>(List.of(StairCodes.class.getDeclaredClasses()));
        all.add(StairCodes.class);
        for (Class<?> type : all) {
            for (Method m : type.getDeclaredMethods()) {
                boolean bears = names.contains(m.getName()) && !Modifier.isPublic(m.getModifiers());
                Due.is(m + " bears a public one's name", bears ? 1 : 0, 0);
                Due.is(m + " has many parameters", m.getParameterCount() > 7 ? 1 : 0, 0);
            }
            Due.is(type + " is static or the face", type == StairCodes.class || Modifier.isStatic(type.getModifiers()) ? 1 : 0, 1);
        }
    }

    private static void fields() throws IllegalAccessException {
        List<String> constants = List.of("NONE -1", "BAD -2", "NOT -3", "FULL -4", "DOUBT -5", "STALL -6");
        int seen = 0;
        for (Field f : StairCodes.class.getDeclaredFields()) {
            if (!Modifier.isPrivate(f.getModifiers())) {
                Due.is(f + " is public, static, final", f.getModifiers(), Modifier.PUBLIC | Modifier.STATIC | Modifier.FINAL);
                Due.is(f + " is of the face", constants.contains(f.getName() + " " + f.getInt(null)) ? 1 : 0, 1);
                seen++;
            } else if (Modifier.isStatic(f.getModifiers())) {
                Due.is(f + " is final", Modifier.isFinal(f.getModifiers()) ? 1 : 0, 1);
            }
        }
        Due.is("constants", seen, constants.size());
        Due.is("public and final", StairCodes.class.getModifiers(), Modifier.PUBLIC | Modifier.FINAL);
        Due.is("constructors", StairCodes.class.getDeclaredConstructors().length, 1);
        Due.is("public constructors", StairCodes.class.getConstructors().length, 1);
    }

    private static void source() throws java.io.IOException {
        String text = Files.readString(Path.of("src/main/java/StairCodes.java"));
        String code = text.replaceAll("(?s)/\\*.*?\\*/", " ").replaceAll("//[^\n]*", " ");
        for (String pattern : FORBIDDEN) {
            Matcher m = Pattern.compile(pattern).matcher(code);
            Due.is("forbidden: " + pattern, m.find() ? 1 : 0, 0);
        }
        Matcher imports = Pattern.compile("import ([\\w.*]+);").matcher(code);
        while (imports.find()) {
            Due.is("import " + imports.group(1), imports.group(1).equals("java.util.Arrays") ? 1 : 0, 1);
        }
    }

    private static long use(StairCodes x, int n) {
        x.blocks(2 + n % 5);
        x.lots(n, 30);
        x.sheet(n % 4, n % 3, n % 65);
        x.write(1, n % 4);
        x.slide(2, 9);
        x.back();
        return x.digest();
    }

    private static void room() {
        com.sun.management.ThreadMXBean threads = (com.sun.management.ThreadMXBean) ManagementFactory.getThreadMXBean();
        StairCodes x = new StairCodes();
        long sum = use(x, 1);
        long before = threads.getCurrentThreadAllocatedBytes();
        for (int n = 0; n < 500; n++) {
            sum += use(x, n);
        }
        long made = threads.getCurrentThreadAllocatedBytes() - before;
        Due.is("bytes made in 3500 calls (" + made + ", " + sum + ")", made > 10000 ? 1 : 0, 0);
    }

    public static void main(String[] args) throws Exception {
        methods();
        fields();
        source();
        room();
        Due.end();
    }
}
