import java.io.IOException;
import java.net.URL;
import java.net.URLClassLoader;
import java.nio.file.Files;
import java.nio.file.Path;
import java.util.ArrayList;
import java.util.List;
import java.util.regex.Matcher;
import java.util.regex.Pattern;
import javax.tools.ToolProvider;

// What README.md tells: its example is compiled as it stands there, and each line must answer what the line tells.
public final class PhrasePoolReadme {
    private static final Path README = Path.of("README.md");
    private static final Pattern EXAMPLE = Pattern.compile("(?s)```java\n(.*?)```");
    // A call, perhaps kept in a variable, and behind it the answer that is told.
    private static final Pattern CALL = Pattern.compile("(?:int (\\w+) = )?(pool\\.\\w+\\(.*?\\)); +// (-?\\d+)\\b.*");
    private static final String[] CONSTANTS = {"NONE", "BAD_INDEX", "BAD_VALUE", "BAD_STATE", "FULL"};
    private static final int[] NUMBERS =
        {PhrasePool.NONE, PhrasePool.BAD_INDEX, PhrasePool.BAD_VALUE, PhrasePool.BAD_STATE, PhrasePool.FULL};

    private static int wrong = 0;

    public static void main(String[] args) throws IOException, ReflectiveOperationException {
        String readme = Files.readString(README);
        Matcher example = EXAMPLE.matcher(readme);
        demand(example.find(), "it has an example");
        int lines = wrong == 0 ? play(example.group(1)) : 0;
        table(readme);
        if (wrong != 0) {
            System.exit(1);
        }
        System.out.println(lines + " lines of the example answer as README.md tells");
    }

    private static void demand(boolean holds, String what) {
        if (!holds) {
            wrong++;
            System.out.println("README.md: not so: " + what);
        }
    }

    private static int play(String example) throws IOException, ReflectiveOperationException {
        StringBuilder code = new StringBuilder("public final class Example { public static void play(int[] got) {\n");
        List<String> calls = new ArrayList<>();
        List<Integer> told = new ArrayList<>();
        for (String line : example.split("\n")) {
            Matcher call = CALL.matcher(line);
            if (call.matches()) {
                String name = call.group(1) == null ? "answer" + calls.size() : call.group(1);
                code.append("int ").append(name).append(" = ").append(call.group(2)).append(";\n");
                code.append("got[").append(calls.size()).append("] = ").append(name).append(";\n");
                calls.add(call.group(2));
                told.add(Integer.parseInt(call.group(3)));
            } else {
                demand(line.equals("PhrasePool pool = new PhrasePool();"), "this line tells its answer: " + line);
                code.append(line).append('\n');
            }
        }
        int[] got = new int[calls.size()];
        demand(got.length > 0, "the example has calls");
        run(code.append("} }\n").toString(), got);
        for (int i = 0; i < got.length; i++) {
            demand(got[i] == told.get(i), calls.get(i) + " answers " + told.get(i) + ", for it answered " + got[i]);
        }
        return got.length;
    }

    private static void run(String code, int[] got) throws IOException, ReflectiveOperationException {
        Path room = Files.createTempDirectory("readme");
        Path file = room.resolve("Example.java");
        Path made = room.resolve("Example.class");
        try {
            Files.writeString(file, code);
            int result = ToolProvider.getSystemJavaCompiler().run(null, null, null, "-cp",
                System.getProperty("java.class.path"), "-d", room.toString(), file.toString());
            demand(result == 0, "the example can be compiled");
            if (result == 0) {
                try (URLClassLoader loader = new URLClassLoader(new URL[] {room.toUri().toURL()})) {
                    loader.loadClass("Example").getMethod("play", int[].class).invoke(null, (Object) got);
                }
            }
        } finally {
            Files.deleteIfExists(made);
            Files.deleteIfExists(file);
            Files.delete(room);
        }
    }

    private static void table(String readme) {
        for (int i = 0; i < CONSTANTS.length; i++) {
            demand(readme.contains("| " + NUMBERS[i] + " | `" + CONSTANTS[i] + "` |"), "it tells " + CONSTANTS[i]);
        }
        for (String said : new String[] {"src/main/java/PhrasePool.java", "new PhrasePool()", ".ci/run", "../shared/tests"}) {
            demand(readme.contains(said), "it tells " + said);
        }
    }
}
