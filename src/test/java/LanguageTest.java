import java.lang.management.ManagementFactory;
import java.lang.reflect.Constructor;
import java.lang.reflect.Field;
import java.lang.reflect.InvocationTargetException;
import java.lang.reflect.Method;
import java.lang.reflect.Modifier;
import java.nio.charset.StandardCharsets;
import java.nio.file.Files;
import java.nio.file.Path;
import java.util.ArrayList;
import java.util.Arrays;
import java.util.List;
import java.util.NoSuchElementException;
import java.util.Random;
import java.util.Set;
import java.util.TreeSet;
import java.util.regex.Matcher;
import java.util.regex.Pattern;

/** The face is the document's, the file keeps to LANGUAGE.md as far as can be seen here, and no call throws by itself. */
public final class LanguageTest {
    private static int wrong = 0;

    public static void main(String[] args) throws Exception {
        face();
        members();
        source();
        wildCalls();
        smallCalls();
        System.out.println(wrong == 0 ? "face and language are as due" : wrong + " faults");
        if (wrong != 0) {
            System.exit(1);
        }
    }

    private static void fault(String what) {
        wrong++;
        System.out.println(what);
    }

    private static void face() throws Exception {
        String doc = Files.readString(Path.of("../shared/DOC.md"), StandardCharsets.UTF_8);
        Set<String> due = new TreeSet<>();
        Matcher m = Pattern.compile("    public (int|boolean|long) (\\w+)\\(([^)]*)\\)( throws NoSuchElementException)?;").matcher(doc);
        while (m.find()) {
            String types = m.group(3).replaceAll("(\\w+) \\w+", "$1").replace(" ", "");
            due.add(m.group(1) + " " + m.group(2) + "(" + types + ")" + (m.group(4) == null ? "" : " throws"));
        }
        Set<String> is = new TreeSet<>();
        for (Method method : ByTheThumbs.class.getDeclaredMethods()) {
            if (Modifier.isPrivate(method.getModifiers())) {
                continue;
            }
            List<String> types = new ArrayList<>();
            for (Class<?> type : method.getParameterTypes()) {
                types.add(type.getName());
            }
            String throwing = method.getExceptionTypes().length == 0 ? "" : " throws";
            is.add(method.getReturnType() + " " + method.getName() + "(" + String.join(",", types) + ")" + throwing);
        }
        if (due.size() != 48 || !due.equals(is)) {
            fault("face: due " + due + ", is " + is);
        }
        if (ByTheThumbs.NONE != -1) {
            fault("NONE");
        }
        for (Constructor<?> c : ByTheThumbs.class.getDeclaredConstructors()) {
            if (c.getParameterCount() != 0 || !Modifier.isPublic(c.getModifiers())) {
                fault("constructor " + c);
            }
        }
        if (!Modifier.isFinal(ByTheThumbs.class.getModifiers())) {
            fault("the class is not final");
        }
    }

    private static void members() {
        Set<String> names = new TreeSet<>();
        for (Method method : ByTheThumbs.class.getMethods()) {
            names.add(method.getName());
        }
        List<Class<?>> classes = new ArrayList<>(Arrays.asList(ByTheThumbs.class.getDeclaredClasses()));
        if (classes.size() + 1 > 12) {
            fault("rule 11: " + (classes.size() + 1) + " classes");
        }
        for (Class<?> c : classes) {
            if (!Modifier.isStatic(c.getModifiers()) || Modifier.isPublic(c.getModifiers()) || Modifier.isProtected(c.getModifiers())) {
                fault("rule 1: " + c);
            }
        }
        classes.add(ByTheThumbs.class);
        for (Class<?> c : classes) {
            int fields = 0;
            for (Field f : c.getDeclaredFields()) {
                boolean isStatic = Modifier.isStatic(f.getModifiers());
                fields += isStatic ? 0 : 1;
                if (isStatic && !Modifier.isFinal(f.getModifiers())) {
                    fault("rule 5: " + f);
                }
                if (c == ByTheThumbs.class && !Modifier.isPrivate(f.getModifiers()) && !f.getName().equals("NONE")) {
                    fault("rule 1: " + f);
                }
            }
            if (fields > 20) {
                fault("rule 11: fields of " + c);
            }
            for (Method method : c.getDeclaredMethods()) {
                if (!Modifier.isPublic(method.getModifiers()) && names.contains(method.getName())) {
                    fault("rule 1: the name of " + method);
                }
                if (method.getParameterCount() > 7) {
                    fault("rule 11: " + method);
                }
            }
        }
    }

    private static void source() throws Exception {
        String whole = Files.readString(Path.of("src/main/java/ByTheThumbs.java"), StandardCharsets.UTF_8);
        String code = whole.replaceAll("(?s)/\\*.*?\\*/", "").replaceAll("//[^\n]*", "");
        for (String bad : new String[] {"\\btry\\b", "\\bcatch\\b", "\\bfinally\\b", "->", "::", "synchronized", "\\bassert\\b", "\\bwhile\\b",
            "\\bpackage\\b", "Exact\\(", "\\bnull\\b", "instanceof", "System\\.(?!arraycopy)", "\\bfloat\\b", "\\bdouble\\b", "\\bthis\\)"}) {
            Matcher m = Pattern.compile(bad).matcher(code);
            if (m.find()) {
                fault("the source has " + m.group());
            }
        }
        Matcher imports = Pattern.compile("import ([^;]*);").matcher(code);
        while (imports.find()) {
            if (!imports.group(1).equals("java.util.NoSuchElementException")) {
                fault("rule 4: " + imports.group());
            }
        }
        Matcher library = Pattern.compile("\\b(Math|Integer|Long|String|System|Arrays)\\.(\\w+)").matcher(code);
        Set<String> known = Set.of("Math.min", "Math.max", "Math.abs", "Integer.bitCount", "System.arraycopy");
        while (library.find()) {
            if (!known.contains(library.group())) {
                fault("rule 4: " + library.group());
            }
        }
        String[] lines = whole.split("\n");
        for (int i = 0; i < lines.length; i++) {
            Matcher head = Pattern.compile("^( {4}| {8})\\w.*\\)( throws \\w+)? \\{$").matcher(lines[i]);
            int end = i;
            while (head.matches() && !lines[end].equals(head.group(1) + "}")) {
                end++;
            }
            if (end - i > 60) {
                fault("rule 11: a long method at line " + (i + 1));
            }
        }
        if (!whole.chars().allMatch(c -> c < 128)) {
            fault("the source has signs above 127");
        }
    }

    private static int wildInt(Random random) {
        int[] odd = {Integer.MIN_VALUE, Integer.MIN_VALUE + 1, -10000, -9, -2, -1, 8, 9, 10, 20, 31, 32, 33, 60, 61, 64, 80, 81,
            99, 100, 255, 256, 9999, 10000, 65536, Integer.MAX_VALUE - 1, Integer.MAX_VALUE};
        return random.nextInt(3) == 0 ? odd[random.nextInt(odd.length)] : random.nextInt(8);
    }

    private static void wildCalls() throws Exception {
        Set<String> throwing = Set.of("fighter", "seat", "strength", "row");
        List<Method> calls = new ArrayList<>();
        for (Method m : ByTheThumbs.class.getDeclaredMethods()) {
            if (Modifier.isPublic(m.getModifiers())) {
                calls.add(m);
            }
        }
        calls.sort((a, b) -> a.getName().compareTo(b.getName()));
        String[] texts = {"n91050;s82110;p73203;l64399", "30,20,0;20,40,1;10,90,2;5,5,3", "f01d3s2f23b1f12", "s*9-h*h+(l>4)*f/w-d*e",
            "n51000;n51000;n51000;n51000", "99,99,9;1,0,1;50,50,2;7,77,7"};
        for (int run = 0; run < 60; run++) {
            Random random = new Random(run);
            ByTheThumbs x = new ByTheThumbs();
            for (int call = 0; call < 512; call++) {
                if (random.nextInt(8) == 0) {
                    put(x, texts[random.nextInt(texts.length)]);
                }
                Method m = calls.get(random.nextInt(calls.size()));
                Object[] args = new Object[m.getParameterCount()];
                for (int i = 0; i < args.length; i++) {
                    args[i] = wildInt(random);
                }
                try {
                    m.invoke(x, args);
                } catch (InvocationTargetException e) {
                    if (e.getCause().getClass() != NoSuchElementException.class || !throwing.contains(m.getName())) {
                        fault("run " + run + ": " + m.getName() + Arrays.toString(args) + " threw " + e.getCause());
                    }
                }
            }
        }
    }

    private static void put(ByTheThumbs x, String text) {
        x.end(0);
        for (int i = 0; i < text.length(); i += 4) {
            int v = 0;
            for (int j = 0; j < 4; j++) {
                v = v << 8 | (i + j < text.length() ? text.charAt(i + j) : 0);
            }
            x.sign(v);
        }
        x.end(text.length());
    }

    /** The room holds all that a run makes: the calls themselves must make next to nothing. */
    private static void smallCalls() {
        com.sun.management.ThreadMXBean threads = (com.sun.management.ThreadMXBean) ManagementFactory.getThreadMXBean();
        for (int warm = 0; warm < 3; warm++) {
            ByTheThumbs x = new ByTheThumbs();
            put(x, "n91050;s82110;p73203;l64399;n51000;s51000;p51000;l51000");
            x.fighters();
            put(x, "30,20,0;20,40,1;10,90,2;5,5,3");
            x.seats();
            long before = threads.getCurrentThreadAllocatedBytes();
            for (int i = 0; i < 16; i++) {
                x.career(i % 8, 4);
                x.card(i % 4 + 1);
                x.ranks();
                x.watch();
                x.stands(i % 8, i % 8);
                x.years(i, 60);
                x.claque(i % 8);
                x.hires(20);
                x.law();
                x.games();
                x.rests(i);
                x.fight(0, 1);
                x.undo();
                x.even();
                x.till(6, 6, 5);
                x.sword(0, 1);
            }
            long made = threads.getCurrentThreadAllocatedBytes() - before;
            if (warm == 2 && made > 4096) {
                fault("256 calls made " + made + " bytes");
            }
        }
    }
}
