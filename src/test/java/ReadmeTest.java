import java.io.File;
import java.io.IOException;
import java.lang.reflect.Method;
import java.nio.file.Files;
import java.nio.file.Path;
import java.util.ArrayList;
import java.util.List;
import java.util.regex.Matcher;
import java.util.regex.Pattern;

/** README.md holds as it is written: its calls answer what stands behind them, its commands run. */
public final class ReadmeTest {
    private static final Path README = Path.of("README.md");
    // A call of x, and behind // what it answers, up to a colon.
    private static final Pattern CALL = Pattern.compile("(.*\\bx\\.\\w+\\(.*);\\s+// ([^:\\s]+)(:.*)?");

    public static void main(String[] args) throws IOException, InterruptedException {
        List<String> lines = Files.readAllLines(README);
        Path place = cleanCopy();
        calls(lines, place);
        commands(lines, place);
        names(lines);
        run(place.getParent(), "rm -rf main shared");
        Files.delete(place.getParent());
        Check.finish();
    }

    /** What a checkout has, so that no command writes into this one; ../shared is where it is here. */
    private static Path cleanCopy() throws IOException, InterruptedException {
        Path place = Files.createTempDirectory("readme").resolve("main");
        Files.createDirectory(place);
        Files.createSymbolicLink(place.resolveSibling("shared"), Path.of("../shared").toRealPath());
        Check.due("a copy", run(Path.of("."), "cp -r README.md src .ci " + place), 0);
        return place;
    }

    private static int run(Path where, String command) throws IOException, InterruptedException {
        ProcessBuilder builder = new ProcessBuilder("bash", "-c", command);
        builder.directory(where.toFile()).redirectErrorStream(true);
        builder.redirectOutput(ProcessBuilder.Redirect.to(new File("/dev/null")));
        return builder.start().waitFor();
    }

    /** The Java of the page, in the order it stands there: methods, and statements that go on with one object. */
    private static void calls(List<String> lines, Path place) throws IOException, InterruptedException {
        StringBuilder methods = new StringBuilder();
        StringBuilder statements = new StringBuilder();
        int answers = 0;
        for (List<String> block : blocks(lines)) {
            boolean isMethods = block.get(0).startsWith("static ");
            for (String line : block) {
                Matcher m = CALL.matcher(line);
                if (m.matches()) {
                    answers++;
                    statements.append("due(\"").append(m.group(1)).append("\", ").append(m.group(1)).append(", ");
                    statements.append(m.group(2)).append(");\n");
                } else {
                    (isMethods ? methods : statements).append(line).append('\n');
                }
            }
        }
        Check.due("calls with an answer", answers > 60, true);
        Files.writeString(place.resolve("Page.java"), page(methods, statements));
        String javac = "javac -d page src/main/java/LeagueLevels.java Page.java";
        Check.due("the page's Java compiles", run(place, javac), 0);
        Check.due("the page's calls answer so", run(place, "java -cp page Page > page.txt"), 0);
        System.out.print(Files.readString(place.resolve("page.txt")));
    }

    private static String page(StringBuilder methods, StringBuilder statements) {
        return "final class Page {\n"
                + "static boolean wrong;\n"
                + "static void due(String call, Object got, Object want) {\n"
                + "if (!String.valueOf(got).equals(String.valueOf(want))) {\n"
                + "wrong = true;\n"
                + "System.out.println(\"README: \" + call + \" answered \" + got + \", not \" + want);\n"
                + "}\n}\n"
                + methods
                + "public static void main(String[] args) {\n"
                + statements
                + "if (wrong) {\nSystem.exit(1);\n}\n}\n}\n";
    }

    private static List<List<String>> blocks(List<String> lines) {
        List<List<String>> blocks = new ArrayList<>();
        boolean inside = false;
        for (String line : lines) {
            if (line.equals("```java")) {
                blocks.add(new ArrayList<>());
                inside = true;
            } else if (line.equals("```")) {
                inside = false;
            } else if (inside) {
                blocks.get(blocks.size() - 1).add(line);
            }
        }
        return blocks;
    }

    private static void commands(List<String> lines, Path place) throws IOException, InterruptedException {
        int commands = 0;
        for (String line : lines) {
            if (line.matches(" {4}(javac|java) .*")) {
                commands++;
                // As it stands there, but not for so long.
                String command = line.trim().replaceAll("OracleTest \\d+", "OracleTest 20");
                Check.due(command, run(place, command), 0);
            } else if (line.startsWith("    .")) {
                // This test is run by it.
                Check.due("can be run: " + line, Files.isExecutable(place.resolve(line.trim())), true);
                commands++;
            }
        }
        Check.due("commands", commands, 8);
    }

    private static void names(List<String> lines) throws IOException {
        String text = String.join("\n", lines);
        for (Method m : LeagueLevels.class.getDeclaredMethods()) {
            Check.due("of " + m.getName(), text.contains("`" + m.getName() + "("), true);
        }
        for (String name : new File("src/test/java").list()) {
            if (name.endsWith("Test.java")) {
                Check.due("of " + name, text.contains("`" + name.replace(".java", "") + "`"), true);
            }
        }
        Matcher m = Pattern.compile("`(\\w+Test)`").matcher(text);
        while (m.find()) {
            Check.due(m.group(1), Files.exists(Path.of("src/test/java", m.group(1) + ".java")), true);
        }
    }
}
