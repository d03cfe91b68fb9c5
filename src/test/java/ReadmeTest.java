import java.io.File;
import java.io.IOException;
import java.lang.reflect.Method;
import java.lang.reflect.Modifier;
import java.nio.file.Files;
import java.nio.file.Path;
import java.util.ArrayList;
import java.util.Arrays;
import java.util.List;
import java.util.stream.Collectors;

/** README.md: its commands work as they stand there, and what it tells of the calls and the tests is so. */
public final class ReadmeTest {
    private static final Check check = new Check();

    public static void main(String[] args) throws Exception {
        String readme = Files.readString(Path.of("README.md"));
        example(readme);
        commands(readme);
        calls(readme);
        tests(readme);
        check.report("ReadmeTest");
    }

    /** The texts between the fences of this kind. */
    private static List<String> blocks(String readme, String kind) {
        List<String> blocks = new ArrayList<>();
        String fence = "\n```" + kind + "\n";
        for (int at = readme.indexOf(fence); at >= 0; at = readme.indexOf(fence, at + 1)) {
            int begin = at + fence.length();
            blocks.add(readme.substring(begin, readme.indexOf("```", begin)));
        }
        return blocks;
    }

    private static void example(String readme) throws IOException {
        check.note("the example", Files.readString(Path.of("example/Example.java")),
            String.join("", blocks(readme, "java")));
    }

    /** But for the script, as it runs this test. */
    private static void commands(String readme) throws Exception {
        StringBuilder said = new StringBuilder();
        int scripts = 0;
        for (String block : blocks(readme, "sh")) {
            for (String command : block.split("\n")) {
                if (command.equals(".ci/run")) {
                    scripts++;
                    check.is(command + " can be run", true, Files.isExecutable(Path.of(command)));
                } else {
                    String got = run(command);
                    said.append(command.endsWith(" Example") ? got : "");
                }
            }
        }
        check.is("the script is named", 1, scripts);
        check.note("what the example prints", String.join("", blocks(readme, "text")), said.toString());
    }

    private static String run(String command) throws IOException, InterruptedException {
        File out = new File("build/said");
        out.getParentFile().mkdirs();
        Process process = new ProcessBuilder(command.split(" ")).redirectErrorStream(true).redirectOutput(out).start();
        check.is(command + " ends with", 0, process.waitFor());
        return Files.readString(out.toPath());
    }

    private static void calls(String readme) throws Exception {
        String source = Files.readString(Path.of("src/main/java/Chargehouse.java"));
        int told = 0;
        for (Method method : Chargehouse.class.getDeclaredMethods()) {
            if (Modifier.isPublic(method.getModifiers())) {
                String row = rowOf(readme, "`" + method.getName() + "(" + arguments(source, method) + ")`");
                String[] cells = row.split("\\|");
                check.note("the row of " + method.getName(), thrown(method), cells.length < 4 ? row : cells[3].trim());
                told++;
            }
        }
        check.is("calls", 26, told);
        for (String constant : new String[] {"NONE", "LAWFULLY", "UNWARRANTED", "FORCE", "OPEN", "DROPPED", "CHARGED"}) {
            check.is("tells of " + constant, true, readme.contains("`" + constant + "`"));
        }
    }

    private static String arguments(String source, Method method) {
        String head = "public " + method.getReturnType().getSimpleName() + " " + method.getName() + "(";
        int begin = source.indexOf(head) + head.length();
        return source.substring(begin, source.indexOf(")", begin)).replaceAll("(int|boolean) ", "");
    }

    private static String thrown(Method method) {
        return Arrays.stream(method.getExceptionTypes()).map(type -> type == IndexOutOfBoundsException.class ? "I"
            : type == IllegalArgumentException.class ? "A" : "S").collect(Collectors.joining(" "));
    }

    private static String rowOf(String readme, String first) {
        for (String line : readme.split("\n")) {
            if (line.startsWith("| " + first + " |")) {
                return line;
            }
        }
        return "no row with " + first;
    }

    private static void tests(String readme) {
        String[] files = new File("src/test/java").list((directory, name) -> name.endsWith("Test.java"));
        check.is("tests are there", true, files != null && files.length > 0);
        for (String file : files == null ? new String[0] : files) {
            String name = file.substring(0, file.length() - ".java".length());
            check.is("the row of " + name, true, rowOf(readme, "`" + name + "`").startsWith("|"));
        }
    }
}
