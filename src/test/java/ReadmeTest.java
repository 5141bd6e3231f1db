import java.io.IOException;
import java.lang.reflect.Field;
import java.net.URL;
import java.net.URLClassLoader;
import java.nio.file.Files;
import java.nio.file.Path;
import java.util.ArrayList;
import java.util.List;
import java.util.regex.Matcher;
import java.util.regex.Pattern;
import javax.tools.ToolProvider;

/** README.md tells each call and each constant of the class, and what it shows is answered so. */
public final class ReadmeTest {
    private static final Pattern CALL = Pattern.compile("public int (\\w+)\\(([^)]*)\\);");
    private static final Pattern SHOWN = Pattern.compile("(?:int (\\w+) = )?(.+);\\s*// ([-\\w]+)(?:[:,].*)?");
    private static final Pattern MAKES = Pattern.compile("WordLeash \\w+ = new WordLeash\\(\\);");
    private static final int CALLS = 44, CONSTANTS = 8;

    private record Shown(List<String> lines, List<String> code, List<Integer> due) {
    }

    public static void main(String[] args) throws Exception {
        String readme = Files.readString(Path.of("README.md"));
        tellsEachCall(readme, Files.readString(Path.of("../shared/DOC.md")));
        tellsEachConstant(readme);
        Shown shown = shown(readme);
        Due.holds("calls are shown", shown.due.size() > 20);
        int[] got = answers(shown.code);
        for (int i = 0; i < got.length; i++) {
            Due.is("README: " + shown.lines.get(i), got[i], shown.due.get(i));
        }
        Due.end("ReadmeTest");
    }

    private static void tellsEachCall(String readme, String document) {
        int calls = 0;
        Matcher call = CALL.matcher(document);
        while (call.find()) {
            String told = call.group(1) + "(" + call.group(2).replace("int ", "") + ")";
            Due.holds("README tells " + told, readme.contains("\n| `" + told + "` |"));
            calls++;
        }
        Due.is("calls in the document", calls, CALLS);
    }

    private static void tellsEachConstant(String readme) throws IllegalAccessException {
        Field[] constants = WordLeash.class.getFields();
        Due.is("constants", constants.length, CONSTANTS);
        for (Field f : constants) {
            String row = "\n| `" + f.getName() + "` | " + f.getInt(null) + " |";
            Due.holds("README tells " + f.getName(), readme.contains(row));
        }
    }

    /** Each line of the examples makes an object or shows the answer of a call. */
    private static Shown shown(String readme) throws IllegalAccessException, NoSuchFieldException {
        Shown all = new Shown(new ArrayList<>(), new ArrayList<>(), new ArrayList<>());
        boolean inside = false;
        for (String line : readme.split("\n")) {
            if (line.startsWith("```")) {
                inside = line.equals("```java");
            } else if (inside) {
                Matcher m = SHOWN.matcher(line);
                boolean shows = m.matches();
                Due.holds("an answer is shown: " + line, shows || MAKES.matcher(line).matches());
                all.code.add(shows ? asCode(m) : line);
                if (shows) {
                    all.lines.add(line);
                    all.due.add(value(m.group(3)));
                }
            }
        }
        return all;
    }

    private static String asCode(Matcher m) {
        String name = m.group(1);
        return name == null ? "got.add(" + m.group(2) + ");"
            : "int " + name + " = " + m.group(2) + "; got.add(" + name + ");";
    }

    private static int value(String told) throws IllegalAccessException, NoSuchFieldException {
        boolean name = Character.isUpperCase(told.charAt(0));
        return name ? WordLeash.class.getField(told).getInt(null) : Integer.parseInt(told);
    }

    private static int[] answers(List<String> code) throws IOException, ReflectiveOperationException {
        Path folder = Files.createTempDirectory("readme");
        Path source = folder.resolve("Examples.java");
        Path made = folder.resolve("Examples.class");
        try {
            Files.writeString(source, "public final class Examples {\n    public static int[] run() {\n"
                + "java.util.List<Integer> got = new java.util.ArrayList<>();\n" + String.join("\n", code)
                + "\nreturn got.stream().mapToInt(i -> i).toArray();\n    }\n}\n");
            int refused = ToolProvider.getSystemJavaCompiler().run(null, null, null, "-d", folder.toString(),
                "-cp", System.getProperty("java.class.path"), source.toString());
            Due.is("the examples compile", refused, 0);
            try (URLClassLoader loader = new URLClassLoader(new URL[] {folder.toUri().toURL()})) {
                return (int[]) loader.loadClass("Examples").getMethod("run").invoke(null);
            }
        } finally {
            Files.deleteIfExists(source);
            Files.deleteIfExists(made);
            Files.deleteIfExists(folder);
        }
    }
}
