import java.io.File;
import java.net.URL;
import java.net.URLClassLoader;
import java.nio.file.Files;
import java.nio.file.Path;
import java.util.ArrayList;
import java.util.List;
import java.util.regex.Matcher;
import java.util.regex.Pattern;
import javax.tools.ToolProvider;

// README.md's walk: its lines are compiled as they stand there, and each must answer the number behind its '//'.
public final class ReadmeTests {
    private static final Pattern CALL =
        Pattern.compile("(?:int (\\w+) = )?(desk\\.(\\w+)\\(.*\\));\\s*// (-?\\d+|ReasonDesk\\.LOST)(:.*)?");
    private static final Pattern SILENT =
        Pattern.compile("\\s*(//.*)?|ReasonDesk desk = .*|String text = .*|for \\(int i = 0; .*");
    private static final int FEWEST = 30;

    public static void main(String[] arguments) throws Exception {
        Path main = Path.of(arguments.length > 0 ? arguments[0] : "src/main/java/ReasonDesk.java").toAbsolutePath();
        Path readme = main.getParent().resolve("../../../README.md").normalize();
        String program = program(walk(Files.readAllLines(readme)));
        Path room = Files.createTempDirectory("walk");
        boolean held = false;
        try {
            held = program != null && answers(program, room, main);
        } finally {
            for (File file : room.toFile().listFiles()) Files.delete(file.toPath());
            Files.delete(room);
        }
        System.out.println(held ? "the walk of README.md answers as it says" : "README.md does not say what is answered");
        if (!held) System.exit(1);
    }

    // The lines of the first block of Java.
    private static List<String> walk(List<String> lines) {
        int start = lines.indexOf("```java");
        List<String> walk = new ArrayList<>();
        for (int i = start + 1; start >= 0 && i < lines.size() && !lines.get(i).equals("```"); i++) walk.add(lines.get(i));
        return walk;
    }

    // A class whose method says how many lines answer otherwise.
    private static String program(List<String> walk) {
        StringBuilder program = new StringBuilder("public final class Walk {\npublic static int wrong() {\nint wrong = 0;\n");
        int asked = 0;
        for (String line : walk) {
            Matcher call = CALL.matcher(line);
            if (!call.matches()) {
                if (!SILENT.matcher(line).matches()) return refuse("this line says no answer: " + line);
                program.append(line).append('\n');
                continue;
            }
            String name = call.group(1) == null ? "answer" + asked : call.group(1);
            program.append(call.group(3).equals("cell") ? "long " : "int ");
            program.append(name).append(" = ").append(call.group(2)).append(";\n");
            program.append("if (").append(name).append(" != ").append(call.group(4)).append(") {\nwrong++;\n");
            program.append("System.out.println(\"").append(line).append(" .. but answered \" + ").append(name).append(");\n}\n");
            asked++;
        }
        if (asked < FEWEST) return refuse("lines with an answer: " + asked);
        return program.append("return wrong;\n}\n}\n").toString();
    }

    private static String refuse(String why) {
        System.out.println(why);
        return null;
    }

    private static boolean answers(String program, Path room, Path main) throws Exception {
        Path file = room.resolve("Walk.java");
        Files.writeString(file, program);
        String[] options = {"-nowarn", "-encoding", "UTF-8", "-d", room.toString(), main.toString(), file.toString()};
        if (ToolProvider.getSystemJavaCompiler().run(null, null, null, options) != 0) return false;
        try (URLClassLoader loader = new URLClassLoader(new URL[] {room.toUri().toURL()}, null)) {
            return loader.loadClass("Walk").getMethod("wrong").invoke(null).equals(0);
        }
    }
}
