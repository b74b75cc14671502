import java.lang.reflect.Constructor;
import java.lang.reflect.Field;
import java.lang.reflect.Method;
import java.lang.reflect.Modifier;
import java.nio.file.Files;
import java.nio.file.Path;
import java.util.ArrayList;
import java.util.Arrays;
import java.util.HashSet;
import java.util.List;
import java.util.Set;
import java.util.TreeSet;
import java.util.regex.Matcher;
import java.util.regex.Pattern;

// Whether the class keeps to LANGUAGE.md, as far as its text and its members tell. Its path is the first argument.
public final class LanguageTests {
    private static final String FACE =
        "int read(int,int,int,int) int make(int,int,int) int worlds(int) int truth(int,int) int compare(int,int) "
        + "int trust(int,int) int hold(int,int,int,int,int) int view(int,int) int entry(int,int) int drop(int,int) "
        + "int weight(int) int together(int) int reasons(int,int) int reason(int,int,int) int harmonies(int) "
        + "int harmony(int,int) int held(int,int) int cuts(int) int cutOf(int,int) int least(int) int giveUp(int) "
        + "int news(int,int) int postulate(int,int) int rule(int,int,int,int,int) int ruled(int,int) "
        + "int extensions(int) int extension(int,int) int concluded(int,int) int claim(int,int) int strikes(int,int) "
        + "int claimed(int,int) int sets(int) int setOf(int,int) int parts() int far(int,int) int merged(int) "
        + "int mergedWorld(int,int) int agreed(int,int) int take(int,int,int) int loose(int) int as(int,int) "
        + "int tell(int) int show(int) int sheet(int,int,int) int lose(int) int put(int,int,int) "
        + "long cell(int,int,int) int copy(int,int,int,int,int) int trace() int fault() int many(int)";
    private static int wrong;

    public static void main(String[] arguments) throws Exception {
        Path path = Path.of(arguments.length > 0 ? arguments[0] : "src/main/java/ReasonDesk.java");
        String source = Files.readString(path);
        face();
        nested();
        words(withoutComments(source));
        methods(withoutComments(source));
        room();
        System.out.println(wrong == 0 ? "the language's rules are kept" : wrong + " rules are broken");
        if (wrong != 0) System.exit(1);
    }

    private static void check(boolean kept, String rule) {
        if (kept) return;
        wrong++;
        System.out.println(rule);
    }

    private static void face() {
        Set<String> due = new TreeSet<>(), is = new TreeSet<>();
        Matcher one = Pattern.compile("(\\w+) (\\w+)\\(([^)]*)\\)").matcher(FACE);
        while (one.find()) due.add(one.group());
        for (Method method : ReasonDesk.class.getDeclaredMethods()) {
            if (Modifier.isPrivate(method.getModifiers())) continue;
            List<String> types = new ArrayList<>();
            for (Class<?> type : method.getParameterTypes()) types.add(type.getName());
            is.add(method.getReturnType().getName() + " " + method.getName() + "(" + String.join(",", types) + ")");
            check(Modifier.isPublic(method.getModifiers()), "not public: " + method);
        }
        check(due.equals(is), "the face is " + is + ", due is " + due);
        check(due.size() == 51, "the face has " + due.size() + " methods");
        Set<String> constants = new TreeSet<>();
        for (Field field : ReasonDesk.class.getDeclaredFields()) {
            int is1 = field.getModifiers();
            if (Modifier.isStatic(is1)) check(Modifier.isFinal(is1), "a static field that is not final: " + field);
            if (Modifier.isPublic(is1)) constants.add(field.getName());
            else check(Modifier.isPrivate(is1), "not private: " + field);
        }
        check(constants.equals(new TreeSet<>(List.of("UNKNOWN", "OUTSIDE", "STATE", "FULL", "NONE", "LOST"))),
            "constants: " + constants);
        int is2 = ReasonDesk.class.getModifiers();
        check(Modifier.isPublic(is2) && Modifier.isFinal(is2), "the class is public and final");
        Constructor<?>[] makers = ReasonDesk.class.getDeclaredConstructors();
        check(makers.length == 1 && Modifier.isPublic(makers[0].getModifiers()), "one public constructor");
    }

    private static void nested() {
        Set<String> open = new HashSet<>();
        for (Method method : ReasonDesk.class.getMethods()) open.add(method.getName());
        List<Class<?>> classes = new ArrayList<>(Arrays.asList(ReasonDesk.class.getDeclaredClasses()));
        check(classes.size() <= 12, "classes: " + classes.size());
        for (Class<?> one : classes) {
            check(Modifier.isStatic(one.getModifiers()) && !Modifier.isPublic(one.getModifiers()), "not so: " + one);
            check(one.getDeclaredClasses().length == 0, "a class within: " + one);
        }
        classes.add(ReasonDesk.class);
        for (Class<?> one : classes) {
            int fields = 0;
            for (Field field : one.getDeclaredFields()) {
                if (!Modifier.isStatic(field.getModifiers())) fields++;
                else check(Modifier.isFinal(field.getModifiers()), "a static field that is not final: " + field);
            }
            check(fields <= 20, one + " has " + fields + " fields");
            for (Method method : one.getDeclaredMethods()) {
                boolean own = one == ReasonDesk.class && Modifier.isPublic(method.getModifiers());
                check(own || !open.contains(method.getName()), "the name of a public one: " + method);
                check(method.getParameterCount() <= 7, "many parameters: " + method);
                check(!method.isSynthetic(), "made by the compiler: " + method);
            }
        }
    }

    private static void words(String text) {
        String[] out = {"throw", "throws", "try", "catch", "finally", "synchronized", "assert", "Exact", "Object", "System\\.out",
            "float", "double", "record", "volatile", "transient", "native", "Random", "Thread", "hashCode", "toString",
            "package", "protected", "static \\{", "->", "::", "new \\w+\\([^)]*\\) \\{", "yield", "var"};
        for (String word : out) {
            String at = Character.isLetter(word.charAt(0)) ? "\\b" + word : word;
            String end = Character.isLetter(word.charAt(word.length() - 1)) && !word.equals("Exact") ? "\\b" : "";
            check(!Pattern.compile(at + end).matcher(text).find(), "not in the language: " + word);
        }
        Matcher library = Pattern.compile("\\b(Math|Long|Integer|Arrays|System)\\.(\\w+)").matcher(text);
        Set<String> may = Set.of("max", "min", "abs", "bitCount", "compare", "floorDiv", "floorMod", "fill", "copyOf",
            "copyOfRange", "arraycopy", "MAX_VALUE", "MIN_VALUE");
        while (library.find()) check(may.contains(library.group(2)), "library: " + library.group());
        Matcher imports = Pattern.compile("import ([\\w.*]+);").matcher(text);
        while (imports.find()) check(imports.group(1).equals("java.util.Arrays"), "import of " + imports.group(1));
        for (int i = 0; i < text.length(); i++) check(text.charAt(i) < 128, "a sign above 127 at " + i);
        check(!Pattern.compile("while \\(true|for \\(;;").matcher(text).find(), "a loop without an end");
        check(!Pattern.compile("\\((Entry|Rule|Barred|Loose|Thing|Bits)\\)").matcher(text).find(), "a cast among own classes");
    }

    // No method has more than sixty lines.
    private static void methods(String text) {
        String[] lines = text.split("\n");
        int start = -1, indent = 0, found = 0;
        for (int i = 0; i < lines.length; i++) {
            String line = lines[i], bare = line.trim();
            int in = line.length() - line.stripLeading().length();
            if (start < 0 && bare.endsWith(") {") && !bare.matches("(for|if|while|switch|else|do|\\}).*")) {
                start = i;
                indent = in;
                found++;
            } else if (start >= 0 && bare.equals("}") && in == indent) {
                check(i - start - 1 <= 60, "a long method: " + lines[start].trim());
                start = -1;
            }
        }
        check(found > 100, "methods found: " + found);
    }

    private static String withoutComments(String source) {
        return source.replaceAll("//[^\n]*", "").replaceAll("(?s)/\\*.*?\\*/", "");
    }

    // Calls make next to nothing: what all of them make together is seen on a second run.
    private static void room() {
        com.sun.management.ThreadMXBean meter =
            (com.sun.management.ThreadMXBean) java.lang.management.ManagementFactory.getThreadMXBean();
        long most = 0;
        for (int run = 0; run < 3; run++) {
            ReasonDesk x = new ReasonDesk();
            long before = meter.getThreadAllocatedBytes(Thread.currentThread().getId());
            dearest(x);
            most = meter.getThreadAllocatedBytes(Thread.currentThread().getId()) - before;
        }
        check(most < 40000, "bytes made by the calls of a run: " + most);
    }

    private static void dearest(ReasonDesk x) {
        for (int s = 0; s < 6; s++) {
            x.sheet(0, 2, 1);
            x.put(0, 0, 'a' + s);
            x.read(0, 2, 0, 1);
        }
        for (int s = 0; s < 6; s++) x.make(0, s, 0);
        for (int e = 0; e < 12; e++) x.hold(e, e % 6, 0, 99, 0);
        for (int r = 0; r < 10; r++) x.rule(r % 3, r, r + 1, r + 2, r);
        for (int c = 0; c < 12; c++) x.claim(c, c % 6);
        for (int i = 0; i < 30; i++) {
            x.view(i % 2, 99);
            x.trust(i % 6, 1 + i % 9);
            x.reasons(i % 12, 0);
            x.harmony(1, i);
            x.held(i % 12, 3);
            x.least(i % 12);
            x.postulate(i % 12, 2);
            x.extension(1, 0);
            x.setOf(2, i);
            x.mergedWorld(i % 3, i);
            x.claimed(i % 12, 7);
            x.drop(i % 12, i % 4 == 0 ? 5 : -9);
        }
    }
}
